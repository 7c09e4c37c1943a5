/-! Calls, first: holders' days, prices, tapes, motions. -/
theorem Sim.mk {M' N' : Mm} {a b : Rr} {r : Int} (ha : a = some (r, M')) (hb : b = some (r, N')) (hJ : J M' N') : Sim a b := ⟨r, M', N', ha, hb, hJ⟩
theorem Sim.same {M N : Mm} (hJ : J M N) (r : Int) : Sim (some (r, M)) (some (r, N)) := ⟨r, M, N, rfl, rfl, hJ⟩
theorem w_succ {i : Nat} (h : i < 2000000000) : w32 ((i : Int) + 1) = ((i + 1 : Nat) : Int) := by rw [w32_s (by omega) (by omega)]; rfl
theorem f_pos {f : Nat} {k : Nat} (h : k < f) : ∃ f', f = f' + 1 ∧ k ≤ f' := ⟨f - 1, by omega, by omega⟩
theorem nat_of {x : Int} (h : 0 ≤ x) : ∃ i : Nat, x = i := ⟨x.toNat, by omega⟩
theorem q_pass {M N : Mm} (n : Nat) (x : Int) (hx : inR x) (hJ : J M N) : Sim (f_W_pass n x M) (f_m_pass n x N) := by
  have hJ0 := hJ
  obtain ⟨σ, hI, hA, hC⟩ := hJ
  have a0 : N 0 0 = σ 0 0 := hA 0 0 rfl
  have c0 : M 1 0 = σ 0 0 := hC.1.1
  have b0 := hI.1.1
  unfold f_W_pass f_m_pass
  rw [e_m_in, bnd_mk, a0, c0]
  by_cases c : 1 ≤ x ∧ x ≤ 99
  · rw [ifn (show ¬ x < 1 by omega), ifn (show ¬ 99 < x by omega), ifp c, ifn (show ¬ (1 : Int) = 0 by decide), w32_s (show -2147483648 ≤ σ 0 0 + x by omega) (by omega)]
    by_cases c2 : σ 0 0 + x ≤ 999
    · rw [ifp c2, ifp c2]
      obtain ⟨h1, h2, h3, h4, h5⟩ := hI
      obtain ⟨k1, k2, k3, k4, k5, k6⟩ := hC
      obtain ⟨p1, p2, p3, p4, p5, p6, p7⟩ := h2
      obtain ⟨q1, q2, q3, q4, q5, q6, q7, q8, q9⟩ := k2
      refine ⟨σ 0 0 + x, mset M 1 0 (σ 0 0 + x), mset N 0 0 (σ 0 0 + x), rfl, rfl, mset σ 0 0 (σ 0 0 + x), ⟨⟨⟨?_, ?_⟩, h1.2⟩, ⟨p1, p2, p3, ?_, ?_, p6, p7⟩, h3, h4, h5⟩, hA.set 0 0 _, ⟨rfl, k1.2⟩, ⟨q1, q2, q3, q4, q5, q6, ?_, q8, q9⟩, k3, k4, k5, k6⟩
      · show 0 ≤ σ 0 0 + x; omega
      · show σ 0 0 + x ≤ 999; omega
      · intro s hs
        have := p4 s hs
        exact ⟨this.1, this.2.1, this.2.2.1, this.2.2.2.1, this.2.2.2.2.1, Int.le_trans this.2.2.2.2.2 (show σ 0 0 ≤ σ 0 0 + x by omega)⟩
      · intro s hs
        have := p5 s hs
        exact ⟨this.1, this.2.1, ⟨this.2.2.1.1, Int.le_trans this.2.2.1.2 (show σ 0 0 ≤ σ 0 0 + x by omega)⟩, this.2.2.2⟩
      · intro s hs
        have := q7 s hs
        exact ⟨this.1, this.2.1, Int.le_trans this.2.2 (show σ 0 0 ≤ σ 0 0 + x by omega)⟩
    · rw [ifn c2, ifn c2]
      exact Sim.same hJ0 _
  · rw [ifn c, ifp (show (0 : Int) = 0 from rfl)]
    by_cases c1 : x < 1
    · rw [ifp c1]; exact Sim.same hJ0 _
    · rw [ifn c1, ifp (show 99 < x by omega)]; exact Sim.same hJ0 _
theorem q_price {M N : Mm} (n : Nat) (x y : Int) (hJ : J M N) : Sim (f_W_price n x y M) (f_m_price n x y N) := by
  have hJ0 := hJ
  obtain ⟨σ, hI, hA, hC⟩ := hJ
  have a3 : N 0 3 = σ 0 3 := hA 0 3 rfl
  have a7 : N 7 = σ 7 := hA.row (fun _ => rfl)
  have c4 : M 1 4 = σ 0 3 := hC.2.1.1
  have c24 : M 24 = σ 7 := hC.2.1.2.2.2.2.2.1
  have b1 := hI.2.1.1
  unfold f_W_price f_m_price
  simp only [e_R_isShare, e_m_isShare n N x (by rw [a3]; exact b1), e_m_in, bnd_mk, a3, c4]
  by_cases c : 0 ≤ x ∧ x < σ 0 3
  · rw [ifp c, ifp (show (1 : Int) ≠ 0 by decide), ifp (show (1 : Int) ≠ 0 by decide)]
    by_cases d : 0 ≤ y ∧ y ≤ 999
    · rw [ifn (show ¬ y < 0 by omega), ifp d.2, ifp d, ifp (show (1 : Int) ≠ 0 by decide)]
      simp only [ckp (show 0 ≤ x ∧ x < 40 by omega)]
      obtain ⟨h1, h2, h3, h4, h5⟩ := hI
      obtain ⟨k1, k2, k3, k4, k5, k6⟩ := hC
      obtain ⟨p1, p2, p3, p4, p5, p6, p7⟩ := h2
      obtain ⟨q1, q2, q3, q4, q5, q6, q7, q8, q9⟩ := k2
      refine ⟨σ 7 x.toNat, mset M 24 x.toNat y, mset N 7 x.toNat y, by rw [c24], by rw [a7], mset σ 7 x.toNat y, ⟨h1, ⟨p1, p2, ?_, p4, p5, p6, p7⟩, h3, h4, h5⟩, hA.set 7 _ _, k1, ⟨q1, q2, q3, q4, q5, ?_, q7, q8, q9⟩, k3, k4, k5, k6⟩
      · intro s
        rw [mg]
        by_cases e : s = x.toNat
        · simp only [e, if_true]; exact d
        · simp only [e, if_true, if_false]; exact p3 s
      · rw [ms_row, ms_row, c24]
    · rw [ifn d, ifn (show ¬ (0 : Int) ≠ 0 by decide)]
      by_cases d1 : y < 0
      · rw [ifp d1]; exact Sim.same hJ0 _
      · rw [ifn d1, ifn (show ¬ y ≤ 999 by omega)]; exact Sim.same hJ0 _
  · rw [ifn c, ifn (show ¬ (0 : Int) ≠ 0 by decide), ifn (show ¬ (0 : Int) ≠ 0 by decide)]
    exact Sim.same hJ0 _
theorem q_of {M N : Mm} (n : Nat) (x y : Int) (hJ : J M N) : Sim (f_W_of n x y M) (f_m_of n x y N) := by
  have hJ0 := hJ
  obtain ⟨σ, hI, hA, hC⟩ := hJ
  have a3 : N 0 3 = σ 0 3 := hA 0 3 rfl
  have b1 := hI.2.1.1
  obtain ⟨q1, q2, q3, q4, q5, q6, q7, q8, q9⟩ := hC.2.1
  unfold f_W_of f_m_of
  simp only [e_R_isShare, e_m_isShare n N x (by rw [a3]; exact b1), bnd_mk, a3, q1, q3, q4, q5, q6, hA.row (k := 3) (fun _ => rfl), hA.row (k := 5) (fun _ => rfl), hA.row (k := 6) (fun _ => rfl), hA.row (k := 7) (fun _ => rfl)]
  by_cases c : 0 ≤ x ∧ x < σ 0 3
  · simp only [ckp (show 0 ≤ x ∧ x < 40 by omega)]
    rw [ifp c, ifp (show (1 : Int) ≠ 0 by decide), ifp (show (1 : Int) ≠ 0 by decide)]
    by_cases d0 : y = 0
    · rw [ifp d0, ifp d0]; exact Sim.same hJ0 _
    · rw [ifn d0, ifn d0]
      by_cases d1 : y = 1
      · rw [ifp d1, ifp d1]; exact Sim.same hJ0 _
      · rw [ifn d1, ifn d1]
        by_cases d2 : y = 2
        · rw [ifp d2, ifp d2]; exact Sim.same hJ0 _
        · rw [ifn d2, ifn d2]
          by_cases d3 : y = 3
          · rw [ifp d3, ifp d3]; exact Sim.same hJ0 _
          · rw [ifn d3, ifn d3]; exact Sim.same hJ0 _
  · rw [ifn c, ifn (show ¬ (0 : Int) ≠ 0 by decide), ifn (show ¬ (0 : Int) ≠ 0 by decide)]
    exact Sim.same hJ0 _
