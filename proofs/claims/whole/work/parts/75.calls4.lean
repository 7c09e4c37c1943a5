/-! force, why, votes, carry, ruler, step. -/
section
variable {σ : Mm} {M N : Mm}
theorem isF_of {kd : Nat → Int} {h : Nat} (c : kd h = 1) : isF kd h = true := decide_eq_true c
theorem lwk_6 (hI : Inv σ) {k : Nat} (hk : (k : Int) < σ 0 18) (w : Nat) : -1 ≤ lwk σ k w ∧ lwk σ k w < 6 := by
  have h := lw_in (CL σ k) w (CL σ k).length
  have h2 := (cl_ok hI hk).2.1
  have e : lwk σ k w = lw (CL σ k) w (CL σ k).length := rfl
  omega
theorem q_why (n : Nat) (hn : 3000 ≤ n) (f w d : Int) (hJ : J M N) : Sim (f_W_why n f w d M) (f_m_why n f w d N) := by
  have hJ0 := hJ
  obtain ⟨σ, hI, hA, hC⟩ := hJ
  have bh := hI.1.2.1
  have a1 : N 0 1 = σ 0 1 := hA 0 1 rfl
  unfold f_W_why f_m_why
  simp only [e_R_isFirm n M f (by rw [hC.1.2.1]; exact bh.2), e_m_isFirm n N f (by rw [a1]; exact bh), e_W_isWord, e_W_isDay, e_m_isDay, e_m_in, bnd_mk, a1, hC.1.2.1, hC.1.2.2.2.2.2.1, hA.row (k := 1) (fun _ => rfl)]
  by_cases c : 0 ≤ f ∧ f < σ 0 1 ∧ σ 1 f.toNat = 1
  · by_cases c2 : 0 ≤ w ∧ w ≤ 4
    · obtain ⟨w', rfl⟩ := nat_of c2.1
      by_cases c3 : 0 ≤ d ∧ d ≤ 999
      · simp only [ifp c, ifp c2, ifp c3, i1, n1]
        obtain ⟨N1, g1, g2, g3⟩ := e_m_ruled n hn hI hA f (w := w') (by omega) d
        rw [e_C_inForce n (by omega) hI hC f (w := w') (by omega) d, bnd_mk, g1, bnd_mk]
        have hJ' : J M N1 := ⟨σ, hI, hA.fr g2 (by decide), hC⟩
        have bk := kk_in hI f w' d
        by_cases c4 : kk σ f w' d < 0
        · have e : ic σ f w' d = -1 := by unfold ic; rw [ifp c4]
          rw [e, ifn (show ¬ (0 : Int) ≤ -1 by decide), ifn (show ¬ 0 ≤ kk σ f w' d by omega)]
          exact Sim.same hJ' _
        · have e : ic σ f w' d = 6 * kk σ f w' d + lwk σ (kk σ f w' d).toNat w' := by unfold ic; rw [ifn c4]
          have bi := bst_in σ f w' d (σ 0 18).toNat
          have ed : kk σ f w' d = bst σ f w' d (σ 0 18).toNat := rfl
          rw [← ed] at bi
          have l2 := bi.2.2 (by omega)
          have l6 := lwk_6 hI (k := (kk σ f w' d).toNat) (by have := hI.2.2.1.1; omega) w'
          rw [e, ifp (by omega), ifp (show 0 ≤ kk σ f w' d by omega), ckp (by omega), Int.toNat_natCast, (g3 (by omega)).1, idv_nn (by omega) (by decide), irm_nn (by omega) (by decide)]
          rw [show (6 * kk σ f w' d + lwk σ (kk σ f w' d).toNat w') / 6 = kk σ f w' d by omega, show (6 * kk σ f w' d + lwk σ (kk σ f w' d).toNat w') % 6 = lwk σ (kk σ f w' d).toNat w' by omega]
          exact Sim.same hJ' _
      · simp only [ifp c, ifp c2, ifn c3, i1, n1, n0]; exact Sim.same hJ0 _
    · simp only [ifp c, ifn c2, i1, n0]; exact Sim.same hJ0 _
  · simp only [ifn c, i0]; exact Sim.same hJ0 _
theorem q_force (n : Nat) (hn : 3000 ≤ n) (f w d s : Int) (hJ : J M N) : Sim (f_W_force n f w d s M) (f_m_force n f w d s N) := by
  have hJ0 := hJ
  obtain ⟨σ, hI, hA, hC⟩ := hJ
  have bh := hI.1.2.1
  have bs := hI.2.1.1
  have a1 : N 0 1 = σ 0 1 := hA 0 1 rfl
  have a3 : N 0 3 = σ 0 3 := hA 0 3 rfl
  unfold f_W_force f_m_force
  simp only [e_R_isFirm n M f (by rw [hC.1.2.1]; exact bh.2), e_m_isFirm n N f (by rw [a1]; exact bh), e_W_isWord, e_m_in, e_R_isShare, e_m_isShare n N s (by rw [a3]; exact bs), bnd_mk, a1, a3, hC.1.2.1, hC.2.1.1, hC.1.2.2.2.2.2.1, hA.row (k := 1) (fun _ => rfl)]
  by_cases c : 0 ≤ f ∧ f < σ 0 1 ∧ σ 1 f.toNat = 1
  · obtain ⟨x, rfl⟩ := nat_of c.1
    have hF : isF (σ 1) x = true := isF_of (by have := c.2.2; rw [Int.toNat_natCast] at this; exact this)
    by_cases c2 : 0 ≤ w ∧ w ≤ 4
    · obtain ⟨w', rfl⟩ := nat_of c2.1
      simp only [ifp c, ifp c2, i1]
      have go : (w' = 4 → 0 ≤ s ∧ s < σ 0 3) → Sim (f_W_force_37 n x w' d s M) (f_m_force_34 n x w' d s N) := by
        intro hs
        unfold f_W_force_37 f_m_force_34
        rw [e_W_isDay, bnd_mk, e_m_isDay, bnd_mk]
        by_cases c3 : 0 ≤ d ∧ d ≤ 999
        · obtain ⟨M1, m1, m2, m3, m4, m5⟩ := e_U_look n hn hI hC c3
          have hC1 := hC.fr m2 (by decide)
          simp only [ifp c3, n1, m1, bnd_mk, bnd_id]
          by_cases c4 : w' = 4
          · subst c4
            obtain ⟨t, rfl⟩ := nat_of (hs rfl).1
            have ht := (hs rfl).2
            rw [ifn (show ¬ ((4 : Nat) : Int) ≠ 4 by decide), ifn (show ¬ ((4 : Nat) : Int) ≠ 4 by decide)]
            obtain ⟨N1, g1, g2, g3, g4⟩ := e_m_findWhose n (by omega) hI hA ht d
            have hA1 := hA.fr g2 (by decide)
            have o := ow_in hI ht d
            have m5t := m5 t ht
            unfold f_U_sleepsNow f_U_sleepsNow_42
            rw [g1, bnd_mk]
            simp only [ckp (show (0 : Int) ≤ (t : Int) ∧ (t : Int) < 40 by omega), Int.toNat_natCast, m5t.1, m5t.2, g3, g4, m3.1]
            rcases o with ⟨o1, o2, o3⟩ | ⟨o1, o2, o3, o4, o5, o6, o7⟩
            · rw [ifp (show ow σ t d < 0 by omega), ifn (show ¬ 0 ≤ (Wh σ t d).1 by omega)]
              exact ⟨0, M1, N1, rfl, rfl, σ, hI, hA1, hC1⟩
            · rw [ifn (show ¬ ow σ t d < 0 by omega), ifp (show 0 ≤ (Wh σ t d).1 by omega), ← o3, ← o4, w32_s (by omega) (by omega)]
              obtain ⟨h, hh⟩ := nat_of o1
              rw [hh]
              obtain ⟨M2, p1, p2⟩ := e_U_sleeps n hn hI hC1 m3 (f := x) (s := t) (h := h) c.2.1 hF (by omega) (by omega) (d - si σ t d)
              obtain ⟨N2, q1, q2, q3⟩ := e_m_putFacts n N1 hI hA1 (s := t) (h := h) (by omega) (by omega) (d - si σ t d)
              have hA2 := hA1.fr q2 (by decide)
              obtain ⟨N3, r1, r2, r3⟩ := e_m_ruled n hn hI hA2 x (w := 4) (by decide) d
              rw [show ((4 : Nat) : Int) = 4 from rfl] at r1
              rw [p1, bnd_mk, q1, bnd_mk, r1, bnd_mk]
              have hJ' : J M2 N3 := ⟨σ, hI, hA2.fr r2 (by decide), hC1.fr p2 (by decide)⟩
              have es : slp σ x d (fct σ t h (d - si σ t d)) = slp σ x d (N2 16) := slp_c hI x d (fun j hj => (q3 j hj).symm)
              unfold f_m_force_103
              by_cases c5 : kk σ x 4 d < 0
              · have e0 : slp σ x d (fct σ t h (d - si σ t d)) = false := by unfold slp; rw [ifp c5]
                rw [ifp c5, e0]
                exact Sim.same hJ' 0
              · have r4 := (r3 (by omega)).2.2.2 rfl
                rw [ifn c5, r4, es]
                by_cases c6 : slp σ x d (N2 16) = true
                · rw [ifp c6]
                  exact Sim.same hJ' 1
                · rw [ifn c6]
                  exact Sim.same hJ' 0
          · rw [ifp (show (w' : Int) ≠ 4 by omega), ifp (show (w' : Int) ≠ 4 by omega), ckp (by omega), ckp (by omega), Int.toNat_natCast, Int.toNat_natCast, (m3.2 x c.2.1 hF).1 w' (by omega)]
            obtain ⟨N1, g1, g2, g3⟩ := e_m_ruled n hn hI hA x (w := w') (by omega) d
            rw [g1, bnd_mk]
            have hJ' : J M1 N1 := ⟨σ, hI, hA.fr g2 (by decide), hC1⟩
            unfold f_C_told f_C_told_16
            rw [e_C_firstOf n hI hC1 x (w := w') (by omega) d, bnd_mk]
            have hw : w' = 0 ∨ w' = 1 ∨ w' = 2 ∨ w' = 3 := by omega
            unfold f_m_force_120
            rcases hw with rfl | rfl | rfl | rfl
            · rw [ifp (show ((0 : Nat) : Int) = 0 from rfl), e_C_secondOf n hI hC1 x (w := 0) (Or.inl rfl) d, bnd_mk]
              have b1 := fi_in hI x (w := 0) (by decide) d
              have b2 := b1.2.2 (by decide)
              have b3 := se_in hI x (w := 0) (Or.inl rfl) d
              by_cases c5 : kk σ x 0 d < 0
              · have h1 : fi σ x 0 d = 1 := by unfold fi; rw [ifp c5]; rfl
                have h2 : se σ x 0 d = 2 := by unfold se; rw [ifp c5]; rfl
                rw [ifp c5, h1, h2]
                exact Sim.same hJ' 1002
              · have q := g3 (by omega)
                rw [ifn c5, show (0 : Int).toNat = 0 from rfl, q.2.1 (by decide), q.2.2.1 (Or.inl rfl)]
                exact Sim.same hJ' _
            · rw [ifn (show ¬ ((1 : Nat) : Int) = 0 by decide), ifp (show ((1 : Nat) : Int) ≠ 2 by decide)]
              by_cases c5 : kk σ x 1 d < 0
              · have h1 : fi σ x 1 d = 999 := by unfold fi; rw [ifp c5]; rfl
                rw [ifp c5, h1]
                exact Sim.same hJ' 999
              · have q := g3 (by omega)
                rw [ifn c5, show (1 : Int).toNat = 1 from rfl, q.2.1 (by decide)]
                exact Sim.same hJ' _
            · rw [ifn (show ¬ ((2 : Nat) : Int) = 0 by decide), ifn (show ¬ ((2 : Nat) : Int) ≠ 2 by decide), e_C_secondOf n hI hC1 x (w := 2) (Or.inr rfl) d, bnd_mk]
              by_cases c5 : kk σ x 2 d < 0
              · have h1 : fi σ x 2 d = 999 := by unfold fi; rw [ifp c5]; rfl
                have h2 : se σ x 2 d = 1 := by unfold se; rw [ifp c5]; rfl
                rw [ifp c5, h1, h2]
                exact Sim.same hJ' 999001
              · have q := g3 (by omega)
                rw [ifn c5, show (2 : Int).toNat = 2 from rfl, q.2.1 (by decide), q.2.2.1 (Or.inr rfl)]
                exact Sim.same hJ' _
            · rw [ifn (show ¬ ((3 : Nat) : Int) = 0 by decide), ifp (show ((3 : Nat) : Int) ≠ 2 by decide)]
              by_cases c5 : kk σ x 3 d < 0
              · have h1 : fi σ x 3 d = -5 := by unfold fi; rw [ifp c5]; rfl
                rw [ifp c5, h1]
                exact Sim.same hJ' (-5)
              · have q := g3 (by omega)
                rw [ifn c5, show (3 : Int).toNat = 3 from rfl, q.2.1 (by decide)]
                exact Sim.same hJ' _
        · simp only [ifn c3, n0]; exact Sim.same hJ0 _
      by_cases c4 : w' = 4
      · subst c4
        rw [ifn (show ¬ ((4 : Nat) : Int) ≠ 4 by decide), ifn (show ¬ ((4 : Nat) : Int) ≠ 4 by decide)]
        by_cases c5 : 0 ≤ s ∧ s < σ 0 3
        · simp only [ifp c5, n1]; exact go (fun _ => c5)
        · simp only [ifn c5, n0]; exact Sim.same hJ0 _
      · rw [ifp (show (w' : Int) ≠ 4 by omega), ifp (show (w' : Int) ≠ 4 by omega)]
        exact go (fun q => absurd q c4)
    · simp only [ifp c, ifn c2, i1, i0]; exact Sim.same hJ0 _
  · simp only [ifn c, i0]; exact Sim.same hJ0 _
theorem q_votes (n : Nat) (hn : 3000 ≤ n) (f h d : Int) (hJ : J M N) : Sim (f_W_votes n f h d M) (f_m_votes n f h d N) := by
  have hJ0 := hJ
  obtain ⟨σ, hI, hA, hC⟩ := hJ
  have bh := hI.1.2.1
  have a1 : N 0 1 = σ 0 1 := hA 0 1 rfl
  unfold f_W_votes f_m_votes
  simp only [e_R_isFirm n M f (by rw [hC.1.2.1]; exact bh.2), e_m_isFirm n N f (by rw [a1]; exact bh), e_R_isHolder, e_m_isHolder n N h (by rw [a1]; exact bh), e_W_isDay, e_m_isDay, bnd_mk, a1, hC.1.2.1, hC.1.2.2.2.2.2.1, hA.row (k := 1) (fun _ => rfl)]
  by_cases c : 0 ≤ f ∧ f < σ 0 1 ∧ σ 1 f.toNat = 1
  · obtain ⟨x, rfl⟩ := nat_of c.1
    have hF : isF (σ 1) x = true := isF_of (by have := c.2.2; rw [Int.toNat_natCast] at this; exact this)
    by_cases c2 : 0 ≤ h ∧ h < σ 0 1
    · obtain ⟨y, rfl⟩ := nat_of c2.1
      by_cases c3 : 0 ≤ d ∧ d ≤ 999
      · obtain ⟨M1, m1, m2, m3, m4, m5⟩ := e_U_look n hn hI hC c3
        have hC1 := hC.fr m2 (by decide)
        obtain ⟨M2, p1, p2, p3⟩ := e_U_tally n hn hI hC1 m3 (okO_day hI d) m4
        obtain ⟨N1, g1, g2, g3, g4⟩ := e_m_look n hn hI hA c3
        have hJ' : J M2 N1 := ⟨σ, hI, hA.fr g2 (by decide), hC1.fr p2 (by decide)⟩
        simp only [ifp c, ifp c2, ifp c3, i1, n1, m1, p1, g1, bnd_mk]
        rw [ckp (by omega), ckp (by omega), w32_s (x := 16 * (x : Int)) (by omega) (by omega), w32_s (x := 16 * (x : Int) + y) (by omega) (by omega), ckp (by omega), Int.toNat_natCast, Int.toNat_natCast, show (16 * (x : Int) + y).toNat = 16 * x + y by omega, (p3 x c.2.1 hF).1 y c2.2, (g3 x c.2.1 hF).2.2.2.2 y c2.2]
        exact Sim.same hJ' _
      · simp only [ifp c, ifp c2, ifn c3, i1, n0]; exact Sim.same hJ0 _
    · simp only [ifp c, ifn c2, i1, i0]; exact Sim.same hJ0 _
  · simp only [ifn c, i0]; exact Sim.same hJ0 _
theorem e_U_carriedBySet {d : Int} {own sn : Nat → Int} (n : Nat) (hn : 3000 ≤ n) (hI : Inv σ) (hC : RelC M σ) (hL : LK M σ d) (hT : TL M σ d own sn) {f : Nat} (hf : (f : Int) < σ 0 1) (hF : isF (σ 1) f = true) (x : Int) : f_U_carriedBySet n f x M = some (if carB σ d own sn f (fun h => bI x h) = true then 1 else 0, M) := by
  have b := hI.1.2.1
  have t := hT f hf hF
  have eG := (hL.2 f hf hF).2
  have hg : ∀ h, 0 ≤ (if bI x h = true then Vt σ d own sn f h else 0) ∧ (if bI x h = true then Vt σ d own sn f h else 0) ≤ 999 := by
    intro h
    have := Vt_in hI d own sn f h
    split
    · exact this
    · exact ⟨by decide, by decide⟩
  have go : ∀ (k h g : Nat), h + k = (σ 0 1).toNat → k < g → lp_U_carriedBySet_5 n g f x (sm h (fun h => if bI x h = true then Vt σ d own sn f h else 0)) h M = some (if carB σ d own sn f (fun h => bI x h) = true then 1 else 0, M) := by
    intro k
    induction k with
    | zero =>
      intro h g hh hg'
      obtain ⟨g', rfl, _⟩ := f_pos hg'
      have e : h = (σ 0 1).toNat := by omega
      subst e
      show f_U_carriedBySet_5 n (lp_U_carriedBySet_5 n g') f x _ _ M = _
      have ec : carB σ d own sn f (fun h => bI x h) = (decide (tf σ d own sn f < sm (σ 0 1).toNat (fun h => if bI x h = true then Vt σ d own sn f h else 0)) && (decide (gd σ f d < 0) || bI x (gd σ f d).toNat)) := rfl
      unfold f_U_carriedBySet_5 f_U_carriedBySet_86
      simp only [ckp (show (0 : Int) ≤ (f : Int) ∧ (f : Int) < 16 by omega), Int.toNat_natCast, t.2, eG]
      rw [ifp (by rw [hC.1.2.1]; omega), ec]
      by_cases c : sm (σ 0 1).toNat (fun h => if bI x h = true then Vt σ d own sn f h else 0) ≤ tf σ d own sn f
      · rw [ifp c, decide_eq_false (by omega)]; rfl
      · rw [ifn c, decide_eq_true (by omega)]
        rcases gd_in σ f d with c2 | c2
        · rw [ifp (show gd σ f d < 0 by omega), decide_eq_true (show gd σ f d < 0 by omega)]; rfl
        · rw [ifn (show ¬ gd σ f d < 0 by omega), decide_eq_false (show ¬ gd σ f d < 0 by omega)]
          obtain ⟨q, hq⟩ := nat_of c2.1
          rw [hq, bit_I (by omega), Int.toNat_natCast]
          cases hb : bI x q <;> rfl
    | succ k ih =>
      intro h g hh hg'
      obtain ⟨g', rfl, hg2⟩ := f_pos hg'
      show f_U_carriedBySet_5 n (lp_U_carriedBySet_5 n g') f x _ h M = _
      have I := ih (h + 1) g' (by omega) hg2
      have es : sm (h + 1) (fun h => if bI x h = true then Vt σ d own sn f h else 0) = sm h (fun h => if bI x h = true then Vt σ d own sn f h else 0) + (if bI x h = true then Vt σ d own sn f h else 0) := rfl
      have s1 := sm_nn (g := fun h => if bI x h = true then Vt σ d own sn f h else 0) (k := h) (fun h _ => (hg h).1)
      have s2 := sm_ub (g := fun h => if bI x h = true then Vt σ d own sn f h else 0) (k := h) (B := 999) (fun h _ => (hg h).2)
      have s3 := hg h
      rw [es] at I
      unfold f_U_carriedBySet_5 f_U_carriedBySet_41
      rw [ifn (by rw [hC.1.2.1]; omega), bit_I (by omega), w_succ (by omega), ckp (by omega), ckp (by omega), Int.toNat_natCast, Int.toNat_natCast, t.1 h (by omega)]
      by_cases c : bI x h = true
      · rw [ifp c, ifn (show ¬ (1 : Int) ≠ 1 by decide)]
        simp only [ifp c] at I s3
        rw [w32_s (by omega) (by omega)]
        exact I
      · rw [ifn c, ifp (show (0 : Int) ≠ 1 by decide)]
        simp only [ifn c] at I
        rw [w32_s (by omega) (by omega)]
        exact I
  exact go (σ 0 1).toNat 0 n (by omega) (by omega)
theorem q_carry (n : Nat) (hn : 3000 ≤ n) (f x d : Int) (hx : inR x) (hJ : J M N) : Sim (f_W_carry n f x d M) (f_m_carry n f x d N) := by
  have hJ0 := hJ
  obtain ⟨σ, hI, hA, hC⟩ := hJ
  have bh := hI.1.2.1
  have a1 : N 0 1 = σ 0 1 := hA 0 1 rfl
  have m11 := hC.1.2.1
  have hset := in_set n N x (by rw [a1]; exact bh)
  rw [a1] at hset
  unfold f_W_carry f_m_carry
  simp only [e_R_isFirm n M f (by rw [m11]; exact bh.2), e_m_isFirm n N f (by rw [a1]; exact bh), e_R_isSet n M x hx (by rw [m11]; exact bh), hset, e_W_isDay, e_m_isDay, bnd_mk, a1, m11, hC.1.2.2.2.2.2.1, hA.row (k := 1) (fun _ => rfl)]
  by_cases c : 0 ≤ f ∧ f < σ 0 1 ∧ σ 1 f.toNat = 1
  · obtain ⟨y, rfl⟩ := nat_of c.1
    have hF : isF (σ 1) y = true := isF_of (by have := c.2.2; rw [Int.toNat_natCast] at this; exact this)
    by_cases c3 : 0 ≤ d ∧ d ≤ 999
    · by_cases c2 : 0 ≤ x ∧ x < (2 : Int) ^ (σ 0 1).toNat
      · obtain ⟨M1, m1, m2, m3, m4, m5⟩ := e_U_look n hn hI hC c3
        have hC1 := hC.fr m2 (by decide)
        obtain ⟨M2, p1, p2, p3⟩ := e_U_tally n hn hI hC1 m3 (okO_day hI d) m4
        obtain ⟨N1, g1, g2, g3, g4⟩ := e_m_look n hn hI hA c3
        have hC2 := hC1.fr p2 (by decide)
        have hA1 := hA.fr g2 (by decide)
        have hJ' : J M2 N1 := ⟨σ, hI, hA1, hC2⟩
        simp only [ifp c, ifp c2, ifp c3, i1, n1, m1, p1, g1, bnd_mk, e_U_carriedBySet n hn hI hC2 (m3.fr hI p2 (by decide)) p3 c.2.1 hF x, e_m_carries n hn hI hA1 c.2.1 (g3 y c.2.1 hF) x]
        by_cases c4 : carB σ d (fun s => ow σ s d) (fun s => si σ s d) y (fun h => bI x h) = true
        · simp only [ifp c4, i1]; exact Sim.same hJ' _
        · simp only [ifn c4, i0, if_true]; exact Sim.same hJ' _
      · simp only [ifp c, ifn c2, ifp c3, i1, n1, n0]; exact Sim.same hJ0 _
    · simp only [ifp c, ifn c3, i1, n0]; exact Sim.same hJ0 _
  · simp only [ifn c, i0]; exact Sim.same hJ0 _
/-- LEAST of a day, on both sides -/
theorem both_least (n : Nat) (hn : 3000 ≤ n) (hI : Inv σ) (hA : AgR N σ) (hC : RelC M σ) {d : Int} (hd : 0 ≤ d ∧ d ≤ 999) : ∃ M1 M2 N1, f_U_look n d M = some (0, M1) ∧ f_U_least n M1 = some (0, M2) ∧ f_m_least n d N = some (0, N1) ∧ J M2 N1 ∧ AgR N1 σ ∧ RelC M2 σ ∧ CBk M2 σ d (fun s => ow σ s d) (fun s => si σ s d) (lstS σ d (fun s => ow σ s d) (fun s => si σ s d)) ∧ RS N1 σ (lstS σ d (fun s => ow σ s d) (fun s => si σ s d)) ∧ LK M2 σ d ∧ TL M2 σ d (fun s => ow σ s d) (fun s => si σ s d) ∧ RT N1 σ d (fun s => ow σ s d) (fun s => si σ s d) ∧ okS σ (lstS σ d (fun s => ow σ s d) (fun s => si σ s d)) ∧ OW M2 σ d (fun s => ow σ s d) (fun s => si σ s d) ∧ (∀ s : Nat, (s : Int) < σ 0 3 → M2 25 s = ow σ s d ∧ M2 26 s = si σ s d) ∧ (∀ s : Nat, (s : Int) < σ 0 3 → N1 22 s = (Wh σ s d).1 ∧ N1 23 s = (Wh σ s d).2) := by
  obtain ⟨M1, m1, m2, m3, m4, m5⟩ := e_U_look n hn hI hC hd
  have hC1 := hC.fr m2 (by decide)
  obtain ⟨M2, p1, p2, p3, p4⟩ := e_U_least n hn hI hC1 m3 (okO_day hI d) m4
  obtain ⟨N1, g1, g2, g3, g4, g5⟩ := e_m_least n hn hI hA hd
  have hC2 := hC1.fr p2 (by decide)
  have hA1 := hA.fr g2 (by decide)
  exact ⟨M1, M2, N1, m1, p1, g1, ⟨σ, hI, hA1, hC2⟩, hA1, hC2, p4, g4, m3.fr hI p2 (by decide), p3, g3, okS_itr hI d _ _ 8, m4.fr p2 rfl rfl, fun s hs => by rw [p2 25 s rfl, p2 26 s rfl]; exact m5 s hs, g5⟩
theorem q_ruler (n : Nat) (hn : 3000 ≤ n) (f d : Int) (hJ : J M N) : Sim (f_W_ruler n f d M) (f_m_ruler n f d N) := by
  have hJ0 := hJ
  obtain ⟨σ, hI, hA, hC⟩ := hJ
  have bh := hI.1.2.1
  have a1 : N 0 1 = σ 0 1 := hA 0 1 rfl
  unfold f_W_ruler f_m_ruler
  simp only [e_R_isFirm n M f (by rw [hC.1.2.1]; exact bh.2), e_m_isFirm n N f (by rw [a1]; exact bh), e_W_isDay, e_m_isDay, bnd_mk, a1, hC.1.2.1, hC.1.2.2.2.2.2.1, hA.row (k := 1) (fun _ => rfl)]
  by_cases c : 0 ≤ f ∧ f < σ 0 1 ∧ σ 1 f.toNat = 1
  · obtain ⟨x, rfl⟩ := nat_of c.1
    have hF : isF (σ 1) x = true := isF_of (by have := c.2.2; rw [Int.toNat_natCast] at this; exact this)
    by_cases c3 : 0 ≤ d ∧ d ≤ 999
    · obtain ⟨M1, M2, N1, e1, e2, e3, hJ', hA1, hC2, hB, hR, -, -, -, hok, -⟩ := both_least n hn hI hA hC c3
      simp only [ifp c, ifp c3, i1, n1, e1, e2, e3, bnd_mk]
      have h45 : M2 45 x = (lstS σ d (fun s => ow σ s d) (fun s => si σ s d)).1 x := by rw [hB.1 x c.2.1]; unfold bk; rw [ifp hF]
      have h29 := hR.1 x (by omega)
      simp only [ckp (show (0 : Int) ≤ (x : Int) ∧ (x : Int) < 16 by omega), Int.toNat_natCast, h45]
      rcases hok.2 x with q | q
      · rw [ifp (by omega)] at h29
        rw [ifn (show ¬ 0 ≤ N1 29 x by omega), q]
        exact Sim.same hJ' _
      · rw [ifn (by omega)] at h29
        rw [ifp (show 0 ≤ N1 29 x by omega), h29]
        exact Sim.same hJ' _
    · simp only [ifp c, ifn c3, i1, n0]; exact Sim.same hJ0 _
  · simp only [ifn c, i0]; exact Sim.same hJ0 _
theorem q_step (n : Nat) (hn : 3000 ≤ n) (d i : Int) (hJ : J M N) : Sim (f_W_step n d i M) (f_m_step n d i N) := by
  have hJ0 := hJ
  obtain ⟨σ, hI, hA, hC⟩ := hJ
  unfold f_W_step f_m_step
  simp only [e_W_isDay, e_m_isDay, bnd_mk]
  by_cases c3 : 0 ≤ d ∧ d ≤ 999
  · obtain ⟨M1, M2, N1, e1, e2, e3, hJ', hA1, hC2, hB, hR, -, -, -, hok, -⟩ := both_least n hn hI hA hC c3
    have b7 := okS_7 hI hok
    simp only [ifp c3, i1, n1, e1, e2, e3, bnd_mk, hB.2.2.1, hR.2.1]
    rw [w32_s (by omega) (by omega), e_m_in, bnd_mk]
    by_cases c : i = -1
    · rw [ifp (show -1 ≤ i by omega), ifn (by simpa using c), ifn (by simpa using c)]
      exact Sim.same hJ' _
    · rw [ifp (show i ≠ -1 from c), ifp (show i ≠ -1 from c)]
      by_cases c2 : 0 ≤ i ∧ i ≤ ((lstS σ d (fun s => ow σ s d) (fun s => si σ s d)).2.2 : Int) - 1
      · obtain ⟨j, rfl⟩ := nat_of c2.1
        simp only [ifp c2, i1]
        rw [ifp (show -1 ≤ (j : Int) by omega), ifn (by omega), ckp (by omega), ckp (by omega), Int.toNat_natCast, hB.2.2.2 j (by omega), hR.2.2 j (by omega)]
        exact Sim.same hJ' _
      · simp only [ifn c2, i0]
        by_cases c4 : -1 ≤ i
        · rw [ifp c4, ifp (by omega)]; exact Sim.same hJ' _
        · rw [ifn c4]
          exact ⟨-1, M, N1, rfl, rfl, σ, hI, hA1, hC⟩
  · simp only [ifn c3, i0, n0]; exact Sim.same hJ0 _
end
