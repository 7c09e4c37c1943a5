/-! Calls: whose a share is, sales, shares. -/
theorem i1 {α : Type} (a b : α) : (if (1 : Int) = 0 then a else b) = b := rfl
theorem i0 {α : Type} (a b : α) : (if (0 : Int) = 0 then a else b) = a := rfl
theorem n1 {α : Type} (a b : α) : (if (1 : Int) ≠ 0 then a else b) = a := rfl
theorem n0 {α : Type} (a b : α) : (if (0 : Int) ≠ 0 then a else b) = b := rfl
theorem q_held {M N : Mm} (n : Nat) (hn : 200 ≤ n) (x d w : Int) (hJ : J M N) : Sim (f_W_held n x d w M) (f_m_held n x d w N) := by
  have hJ0 := hJ
  obtain ⟨σ, hI, hA, hC⟩ := hJ
  have a3 : N 0 3 = σ 0 3 := hA 0 3 rfl
  have b1 := hI.2.1.1
  have q1 := hC.2.1.1
  unfold f_W_held f_m_held
  simp only [e_R_isShare, e_m_isShare n N x (by rw [a3]; exact b1), e_W_isDay, e_m_isDay, e_m_in, bnd_mk, a3, q1]
  by_cases c : 0 ≤ x ∧ x < σ 0 3
  · obtain ⟨s, rfl⟩ := nat_of c.1
    by_cases c2 : 0 ≤ d ∧ d ≤ 999
    · by_cases c3 : 0 ≤ w ∧ w ≤ 1
      · simp only [ifp c, ifp c2, ifp c3, i1, n1, ifn (show ¬ w < 0 by omega), ifp c3.2]
        obtain ⟨M', g1, g2, g3⟩ := e_R_lookAt n hn hI hC d
        obtain ⟨N', k1, k2, k3, k4⟩ := e_m_findWhose n hn hI hA c.2 d
        have hJ' : J M' N' := ⟨σ, hI, hA.fr k2 rfl, hC.fr g2 rfl⟩
        have e := g3 s c.2
        have e2 := ow_in hI c.2 d
        simp only [g1, k1, bnd_mk, ckp (show (0 : Int) ≤ (s : Int) ∧ (s : Int) < 40 by omega), Int.toNat_natCast, e.1, e.2, k3, k4]
        rcases e2 with ⟨f1, f2, f3⟩ | ⟨f1, f2, f3, f4, f5⟩
        · rw [f1, f2, f3, ifn (show ¬ (0 : Int) ≤ -1 by decide)]
          by_cases c4 : w = 0
          · rw [ifn (by simpa using c4)]; exact Sim.same hJ' _
          · rw [ifp c4]; exact Sim.same hJ' _
        · rw [ifp (show 0 ≤ (Wh σ s d).1 by omega), f3, f4]
          by_cases c4 : w = 0
          · rw [ifn (by simpa using c4), ifn (by simpa using c4)]; exact Sim.same hJ' _
          · rw [ifp c4, ifp c4]; exact Sim.same hJ' _
      · simp only [ifp c, ifp c2, ifn c3, i1, n0]
        by_cases c4 : w < 0
        · rw [ifp c4]; exact Sim.same hJ0 _
        · rw [ifn c4, ifn (show ¬ w ≤ 1 by omega)]; exact Sim.same hJ0 _
    · simp only [ifp c, ifn c2, i1, i0]; exact Sim.same hJ0 _
  · simp only [ifn c, i0]; exact Sim.same hJ0 _
theorem e_R_move (n : Nat) (M : Mm) (x h : Int) (hb : 0 ≤ M 1 16 ∧ M 1 16 < 160) : f_R_move n x h M = some (0, mset (mset (mset (mset M 27 (M 1 16).toNat x) 28 (M 1 16).toNat h) 29 (M 1 16).toNat (M 1 0)) 1 16 (M 1 16 + 1)) := by
  unfold f_R_move
  simp only [mg_k _ _ _ (show (1 : Nat) ≠ 27 by decide), mg_k _ _ _ (show (1 : Nat) ≠ 28 by decide), mg_k _ _ _ (show (1 : Nat) ≠ 29 by decide)]
  rw [ifn (by omega), ckp hb, ckp hb, ckp hb, w32_s (by omega) (by omega)]
theorem e_R_sales (n : Nat) (M : Mm) : f_R_sales n M = some (w32 (M 1 16 - M 1 4), M) := rfl
theorem q_sale {M N : Mm} (n : Nat) (hn : 200 ≤ n) (x h : Int) (hJ : J M N) : Sim (f_W_sale n x h M) (f_m_sale n x h N) := by
  have hJ0 := hJ
  obtain ⟨σ, hI, hA, hC⟩ := hJ
  have a1 : N 0 1 = σ 0 1 := hA 0 1 rfl
  have a3 : N 0 3 = σ 0 3 := hA 0 3 rfl
  have b1 := hI.2.1.1
  have b2 := hI.2.1.2.1
  have bh := hI.1.2.1
  have bt := hI.1.1
  have q1 := hC.2.1.1
  have q11 := hC.1.2.1
  unfold f_W_sale f_m_sale
  simp only [e_R_isShare, e_m_isShare n N x (by rw [a3]; exact b1), e_R_isHolder, e_m_isHolder n N h (by rw [a1]; exact bh), bnd_mk, a3, q1, a1, q11]
  by_cases c : 0 ≤ x ∧ x < σ 0 3
  · obtain ⟨s, rfl⟩ := nat_of c.1
    by_cases c2 : 0 ≤ h ∧ h < σ 0 1
    · simp only [ifp c, ifp c2, i1, n1]
      obtain ⟨M1, g1, g2, g3⟩ := e_R_lookAt n hn hI hC (M 1 0)
      obtain ⟨N1, k1, k2, k3, k4⟩ := e_m_findWhose n hn hI hA c.2 (N 0 0)
      have m0 : M 1 0 = σ 0 0 := hC.1.1
      have n0' : N 0 0 = σ 0 0 := hA 0 0 rfl
      rw [m0] at g1 g3
      rw [n0'] at k1 k3 k4
      have hA1 := hA.fr k2 rfl
      have hC1 := hC.fr g2 rfl
      have e := g3 s c.2
      have e2 := ow_in hI c.2 (σ 0 0)
      have e3 : (ow σ s (σ 0 0) = h) ↔ ((Wh σ s (σ 0 0)).1 = h) := by omega
      simp only [m0, n0', g1, k1, bnd_mk, ckp (show (0 : Int) ≤ (s : Int) ∧ (s : Int) < 40 by omega), Int.toNat_natCast, e.1, k3, e_R_sales]
      by_cases c3 : ow σ s (σ 0 0) = h
      · rw [ifn (by simpa using c3), ifn (by simpa using e3.mp c3)]
        exact ⟨_, M1, N1, rfl, rfl, σ, hI, hA1, hC1⟩
      · rw [ifp c3, ifp (show (Wh σ s (σ 0 0)).1 ≠ h from fun q => c3 (e3.mpr q))]
        obtain ⟨h1, h2, h3, h4, h5⟩ := hI
        obtain ⟨r1, r2, r3, r4, r5, r6⟩ := hC1
        obtain ⟨p1, p2, p3, p4, p5, p6, p7⟩ := h2
        obtain ⟨q1, q2, q3, q4, q5, q6, q7, q8, q9⟩ := r2
        have a4 : N1 0 4 = σ 0 4 := hA1 0 4 rfl
        have a0 : N1 0 0 = σ 0 0 := hA1 0 0 rfl
        have m10 : M1 1 0 = σ 0 0 := r1.1
        rw [q2, q1, w32_s (by omega) (by omega), show σ 0 3 + σ 0 4 - σ 0 3 = σ 0 4 by omega, a4]
        by_cases c4 : σ 0 4 = 120
        · rw [ifn (by omega), ifn (by omega)]
          exact ⟨_, M1, N1, rfl, rfl, σ, ⟨h1, ⟨p1, p2, p3, p4, p5, p6, p7⟩, h3, h4, h5⟩, hA1, r1, ⟨q1, q2, q3, q4, q5, q6, q7, q8, q9⟩, r3, r4, r5, r6⟩
        · rw [ifp (by omega), ifp c4, e_R_move n M1 _ _ (by rw [q2]; omega)]
          simp only [mg_k _ _ _ (show (0 : Nat) ≠ 9 by decide), mg_k _ _ _ (show (0 : Nat) ≠ 10 by decide), mg_k _ _ _ (show (0 : Nat) ≠ 11 by decide), a4, a0, m10, q2, bnd_mk, e_R_sales, ckp (show 0 ≤ σ 0 4 ∧ σ 0 4 < 120 by omega)]
          rw [w32_s (x := σ 0 4 + 1) (by omega) (by omega)]
          have es : (σ 0 3 + (σ 0 4 + 1)).toNat = (σ 0 3 + σ 0 4).toNat + 1 := by omega
          have es2 : (σ 0 4 + 1).toNat = (σ 0 4).toNat + 1 := by omega
          refine Sim.mk (r := σ 0 4 + 1) ?_ ?_ (M' := mset (mset (mset (mset M1 27 (σ 0 3 + σ 0 4).toNat s) 28 (σ 0 3 + σ 0 4).toNat h) 29 (σ 0 3 + σ 0 4).toNat (σ 0 0)) 1 16 (σ 0 3 + σ 0 4 + 1)) (N' := mset (mset (mset (mset N1 9 (σ 0 4).toNat s) 10 (σ 0 4).toNat h) 11 (σ 0 4).toNat (σ 0 0)) 0 4 (σ 0 4 + 1)) ⟨mset (mset (mset (mset σ 9 (σ 0 4).toNat s) 10 (σ 0 4).toNat h) 11 (σ 0 4).toNat (σ 0 0)) 0 4 (σ 0 4 + 1), ⟨h1, ⟨p1, ⟨?_, ?_⟩, p3, p4, ?_, ?_, p7⟩, h3, h4, h5⟩, (((hA1.set 9 _ _).set 10 _ _).set 11 _ _).set 0 4 _, r1, ⟨q1, ?_, q3, q4, q5, q6, ?_, ?_, ?_⟩, r3, r4, r5, r6⟩
          · rw [mg_s, mg_j _ _ _ (by decide), mg_k _ _ _ (by decide), mg_k _ _ _ (by decide), mg_k _ _ _ (by decide), q1, w32_s (by omega) (by omega)]
            congr 2; omega
          · rw [mg_s]
          · show 0 ≤ σ 0 4 + 1; omega
          · show σ 0 4 + 1 ≤ 120; omega
          · intro k hk
            replace hk : (k : Int) < σ 0 4 + 1 := hk
            show (0 ≤ mset σ 9 (σ 0 4).toNat s 9 k ∧ mset σ 9 (σ 0 4).toNat s 9 k < σ 0 3) ∧ (0 ≤ mset σ 10 (σ 0 4).toNat h 10 k ∧ mset σ 10 (σ 0 4).toNat h 10 k < σ 0 1) ∧ (0 ≤ mset σ 11 (σ 0 4).toNat (σ 0 0) 11 k ∧ mset σ 11 (σ 0 4).toNat (σ 0 0) 11 k ≤ σ 0 0) ∧ σ 8 (mset σ 9 (σ 0 4).toNat s 9 k).toNat ≤ mset σ 11 (σ 0 4).toNat (σ 0 0) 11 k
            by_cases e : k = (σ 0 4).toNat
            · subst e
              rw [mg_s, mg_s, mg_s]
              exact ⟨c, c2, ⟨bt.1, Int.le_refl _⟩, (p4 s c.2).2.2.2.2.2⟩
            · rw [mg_j _ _ _ e, mg_j _ _ _ e, mg_j _ _ _ e]
              exact p5 k (by omega)
          · intro i j hij hj
            replace hj : (j : Int) < σ 0 4 + 1 := hj
            show mset σ 11 (σ 0 4).toNat (σ 0 0) 11 i ≤ mset σ 11 (σ 0 4).toNat (σ 0 0) 11 j
            by_cases e : j = (σ 0 4).toNat
            · subst e
              rw [mg_s]
              by_cases e2 : i = (σ 0 4).toNat
              · subst e2; rw [mg_s]; exact Int.le_refl _
              · rw [mg_j _ _ _ e2]; exact (p5 i (by omega)).2.2.1.2
            · rw [mg_j _ _ _ e, mg_j _ _ _ (by omega)]
              exact p6 i j hij (by omega)
          · show σ 0 3 + σ 0 4 + 1 = σ 0 3 + (σ 0 4 + 1); omega
          · intro k hk
            replace hk : (k : Int) < σ 0 3 + (σ 0 4 + 1) := hk
            show (0 ≤ mset M1 27 (σ 0 3 + σ 0 4).toNat s 27 k ∧ mset M1 27 (σ 0 3 + σ 0 4).toNat s 27 k < σ 0 3) ∧ (0 ≤ mset M1 29 (σ 0 3 + σ 0 4).toNat (σ 0 0) 29 k ∧ mset M1 29 (σ 0 3 + σ 0 4).toNat (σ 0 0) 29 k ≤ σ 0 0)
            by_cases e : k = (σ 0 3 + σ 0 4).toNat
            · subst e
              rw [mg_s, mg_s]
              exact ⟨c, bt.1, Int.le_refl _⟩
            · rw [mg_j _ _ _ e, mg_j _ _ _ e]
              exact q7 k (by omega)
          · intro i j hij hj
            replace hj : (j : Int) < σ 0 3 + (σ 0 4 + 1) := hj
            show mset M1 29 (σ 0 3 + σ 0 4).toNat (σ 0 0) 29 i ≤ mset M1 29 (σ 0 3 + σ 0 4).toNat (σ 0 0) 29 j
            by_cases e : j = (σ 0 3 + σ 0 4).toNat
            · subst e
              rw [mg_s]
              by_cases e2 : i = (σ 0 3 + σ 0 4).toNat
              · subst e2; rw [mg_s]; exact Int.le_refl _
              · rw [mg_j _ _ _ e2]; exact (q7 i (by omega)).2.2
            · rw [mg_j _ _ _ e, mg_j _ _ _ (by omega)]
              exact q8 i j hij (by omega)
          · intro s' hs' d
            show whC (mset M1 27 (σ 0 3 + σ 0 4).toNat s 27) (mset M1 28 (σ 0 3 + σ 0 4).toNat h 28) (mset M1 29 (σ 0 3 + σ 0 4).toNat (σ 0 0) 29) s' d (σ 0 3 + (σ 0 4 + 1)).toNat = if (whR (σ 4) (σ 8) (mset σ 9 (σ 0 4).toNat s 9) (mset σ 10 (σ 0 4).toNat h 10) (mset σ 11 (σ 0 4).toNat (σ 0 0) 11) s' d (σ 0 4 + 1).toNat).1 < 0 then (-5, -5) else whR (σ 4) (σ 8) (mset σ 9 (σ 0 4).toNat s 9) (mset σ 10 (σ 0 4).toNat h 10) (mset σ 11 (σ 0 4).toNat (σ 0 0) 11) s' d (σ 0 4 + 1).toNat
            rw [es, es2]
            have u1 := whC_congr (ms := mset M1 27 (σ 0 3 + σ 0 4).toNat s 27) (mh := mset M1 28 (σ 0 3 + σ 0 4).toNat h 28) (md := mset M1 29 (σ 0 3 + σ 0 4).toNat (σ 0 0) 29) (ms' := M1 27) (mh' := M1 28) (md' := M1 29) (s := s') (d := d) (k := (σ 0 3 + σ 0 4).toNat) (fun i hi => ⟨mg_j _ _ _ (by omega), mg_j _ _ _ (by omega), mg_j _ _ _ (by omega)⟩)
            have u2 := whR_congr (s1 := σ 4) (ca := σ 8) (xs := mset σ 9 (σ 0 4).toNat s 9) (xt := mset σ 10 (σ 0 4).toNat h 10) (xd := mset σ 11 (σ 0 4).toNat (σ 0 0) 11) (s1' := σ 4) (ca' := σ 8) (xs' := σ 9) (xt' := σ 10) (xd' := σ 11) (s := s') (d := d) ⟨rfl, rfl⟩ (k := (σ 0 4).toNat) (fun i hi => ⟨mg_j _ _ _ (by omega), mg_j _ _ _ (by omega), mg_j _ _ _ (by omega)⟩)
            unfold whC whR
            rw [u1, u2]
            simp only [mg_s]
            by_cases e : (s : Int) = (s' : Int) ∧ σ 0 0 ≤ d
            · rw [ifp e, ifp e, ifn (show ¬ h < 0 by omega)]
            · rw [ifn e, ifn e]
              exact q9 s' hs' d
    · simp only [ifp c, ifn c2, i1, n0]; exact Sim.same hJ0 _
  · simp only [ifn c, i0]; exact Sim.same hJ0 _
