/-! buy(..): the call. -/
section
variable {σ : Mm} {M N : Mm}
def PBy (σ : Mm) (r : Int) : Nat → Bool := fun s => decide (0 < σ 7 s ∧ ow σ s (σ 0 0) ≠ r)
theorem e_m_fb15 (n : Nat) (hn : 3000 ≤ n) (hI : Inv σ) {r : Int} (hr : 0 ≤ r) (f : Nat) : ∀ (k s g : Nat) (N : Mm), s + k = (σ 0 3).toNat → k < g → AgR N σ → (∀ s : Nat, (s : Int) < σ 0 3 → N 22 s = (Wh σ s (σ 0 0)).1) → N 0 60 = ((min 8 (cn s (PBy σ r)) : Nat) : Int) → (∀ k, k < min 8 (cn s (PBy σ r)) → N 38 k = (pkN (σ 0 3).toNat (PBy σ r) k : Int)) → ∃ N', lp_m_findBought_15 n g r f s N = lp_m_findBought_61 n n r f 0 0 0 N' ∧ AgR N' σ ∧ PKR N' σ (PBy σ r) := by
  have b1 := hI.2.1.1
  intro k
  induction k with
  | zero =>
    intro s g N hs hg hA hW h60 h38
    obtain ⟨g', rfl, _⟩ := f_pos hg
    have e : s = (σ 0 3).toNat := by omega
    subst e
    show ∃ N', f_m_findBought_15 n (lp_m_findBought_15 n g') r f _ N = _ ∧ _
    unfold f_m_findBought_15
    rw [ifp (by rw [hA 0 3 rfl]; omega)]
    exact ⟨N, rfl, hA, h60, h38⟩
  | succ k ih =>
    intro s g N hs hg hA hW h60 h38
    obtain ⟨g', rfl, hg'⟩ := f_pos hg
    show ∃ N', f_m_findBought_15 n (lp_m_findBought_15 n g') r f s N = _ ∧ _
    have q := ow_in hI (s := s) (by omega) (σ 0 0)
    have hw := hW s (by omega)
    unfold f_m_findBought_15 f_m_findBought_47
    simp only [ifn (show ¬ N 0 3 ≤ (s : Int) by rw [hA 0 3 rfl]; omega), ckp (show (0 : Int) ≤ (s : Int) ∧ (s : Int) < 40 by omega), Int.toNat_natCast, hA.row (k := 7) (fun _ => rfl), w_succ (show s < 2000000000 by omega), hw]
    have skip : ¬ (0 < σ 7 s ∧ ow σ s (σ 0 0) ≠ r) → ∃ N', lp_m_findBought_15 n g' r f ((s + 1 : Nat) : Int) N = lp_m_findBought_61 n n r f 0 0 0 N' ∧ AgR N' σ ∧ PKR N' σ (PBy σ r) := by
      intro z
      have hP : PBy σ r s = false := decide_eq_false z
      exact ih (s + 1) g' N (by omega) hg' hA hW (by rw [cn_f hP]; exact h60) (by rw [cn_f hP]; exact h38)
    by_cases c1 : σ 7 s ≤ 0
    · rw [ifp c1]; exact skip (fun z => by omega)
    · rw [ifn c1]
      by_cases c2 : (Wh σ s (σ 0 0)).1 = r
      · rw [ifp c2]
        refine skip fun z => z.2 ?_
        rcases q with q | q
        · omega
        · omega
      · rw [ifn c2]
        have hP : PBy σ r s = true := decide_eq_true ⟨by omega, by rcases q with q | q <;> omega⟩
        obtain ⟨N1, g1, g2, g3, g4⟩ := e_m_good n N (by omega) hP h60 h38
        rw [g1, bnd_mk]
        exact ih (s + 1) g' N1 (by omega) hg' (hA.fr g2 (by decide)) (fun y hy => by rw [g2 22 y rfl]; exact hW y hy) g3 g4
theorem q_buy (n : Nat) (hn : 3000 ≤ n) (r f w : Int) (hJ : J M N) : Sim (f_W_buy n r f w M) (f_m_buy n r f w N) := by
  have hJ0 := hJ
  obtain ⟨σ, hI, hA, hC⟩ := hJ
  have bs := hI.2.1.1
  have bt := hI.1.1
  have b := hI.1.2.1
  have a1 : N 0 1 = σ 0 1 := hA 0 1 rfl
  unfold f_W_buy f_m_buy
  simp only [e_R_isRulerU n hI hC r, e_m_isRuler n hn hI hA r, e_R_isFirm n M f (by rw [hC.1.2.1]; exact b.2), e_m_isFirm n N f (by rw [a1]; exact b), e_m_in, bnd_mk, a1, hC.1.2.1, hC.1.2.2.2.2.2.1, hA.row (k := 1) (fun _ => rfl)]
  by_cases c : 0 ≤ r ∧ r < σ 0 1 ∧ isU (σ 1) (σ 2) r.toNat = true
  · by_cases c2 : 0 ≤ f ∧ f < σ 0 1 ∧ σ 1 f.toNat = 1
    · obtain ⟨x, rfl⟩ := nat_of c2.1
      have hF : isF (σ 1) x = true := isF_of (by have := c2.2.2; rw [Int.toNat_natCast] at this; exact this)
      by_cases c3 : 0 ≤ w ∧ w ≤ 1
      · simp only [ifp c, ifp c2, ifp c3, i1, n1, ifn (show ¬ w < 0 by omega), ifp c3.2]
        have bK := pkc_le 8 (σ 0 3).toNat (PBy σ r)
        have h6 : (2 : Nat) ^ pkc 8 (σ 0 3).toNat (PBy σ r) ≤ 2 ^ 8 := Nat.pow_le_pow_right (by decide) bK.1
        -- the class, before its loop
        obtain ⟨M1, m1, m2, m3, m4, m5⟩ := e_U_look n hn hI hC bt
        have hC1 := hC.fr m2 (by decide)
        obtain ⟨M2, p1, p2, p3⟩ := e_S_pickForSale n hn hI hC1 r (fun s hs => (m5 s hs).1)
        have hS : CSt M2 σ (PBy σ r) := ⟨hC1.fr p2 (by decide), p3, m3.fr hI p2 (by decide), fun s hs => by rw [p2 25 s rfl, p2 26 s rfl]; exact m5 s hs, fun s hs _ => by rw [p2 39 s rfl, p2 40 s rfl]; exact m4 s hs⟩
        -- the reference, before its loop
        have f0 : Fr cdR [1060] N (mset N 0 60 0) := Fr.rf.set rfl
        have hA0 := hA.fr f0 (by decide)
        obtain ⟨N1, g1, g2, g3⟩ := e_m_layOut n hn hI hA0 (σ 0 0)
        have hA1 := hA0.fr g2 (by decide)
        obtain ⟨N2, k1, k2, k3⟩ := e_m_fb15 n hn hI c.1 x (σ 0 3).toNat 0 n N1 (by omega) (by omega) hA1 (fun s hs => (g3 s hs).1) (by rw [g2 0 60 rfl, mg_s]; rfl) (fun k hk => by
          have : k < 0 := by have h0 : cn 0 (PBy σ r) = 0 := rfl; omega
          omega)
        obtain ⟨o, M3, N3, l1, l2, l3, l4, l5, l6, l7⟩ := both_sets n hn hI ⟨c.1, c.2.1⟩ c2.2.1 hF (2 ^ pkc 8 (σ 0 3).toNat (PBy σ r)) 0 n none M2 N2 (by omega) (by omega) (fun b hb => by cases hb) hS k2 k3 (fun b hb => by cases hb)
        have l1' : lp_S_cheapest_28 n n r x (-1) 39961 0 M2 = _ := l1
        have l2' : lp_m_findBought_61 n n r x 0 0 0 N2 = _ := l2
        have k1' : lp_m_findBought_15 n n r x 0 N1 = _ := k1
        have hJ3 : J M3 N3 := ⟨σ, hI, l5, l4.1⟩
        unfold f_S_cheapest f_m_findBought f_W_buy_57
        rw [hC.1.1, m1, bnd_mk, p1, bnd_mk, l1', bnd_mk, hA0 0 0 rfl, g1, bnd_mk, k1', l2', bnd_mk]
        cases o with
        | none =>
          exact Sim.same hJ3 _
        | some m =>
          have hl := lbits_nn (sh := (σ 0 3).toNat) (by omega) (PBy σ r) m bK.2
          have hm := l3 m rfl
          have h7 := l7 m rfl
          show Sim (if lbits (σ 0 3).toNat (PBy σ r) m (pkc 8 (σ 0 3).toNat (PBy σ r)) < 0 then _ else _) (if (1 : Int) ≠ 0 then _ else _)
          rw [ifn (show ¬ lbits (σ 0 3).toNat (PBy σ r) m (pkc 8 (σ 0 3).toNat (PBy σ r)) < 0 by omega), n1, h7.1, h7.2]
          by_cases z : w ≠ 0
          · rw [ifp z, ifp z, e_R_priceOf n hn hI l4.1 (PBy σ r) m bK.2, bnd_mk]
            exact Sim.same hJ3 _
          · rw [ifn z, ifn z]
            exact Sim.same hJ3 _
      · simp only [ifp c, ifp c2, ifn c3, i1, n0]
        by_cases z : w < 0
        · rw [ifp z]; exact Sim.same hJ0 _
        · rw [ifn z, ifn (show ¬ w ≤ 1 by omega)]; exact Sim.same hJ0 _
    · simp only [ifp c, ifn c2, i1, i0]; exact Sim.same hJ0 _
  · simp only [ifn c, i0]; exact Sim.same hJ0 _
end
