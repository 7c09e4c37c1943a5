/-! free(..): the call. -/
section
variable {σ : Mm} {M N : Mm}
theorem e_S_pickOfGroup (n : Nat) (hn : 3000 ≤ n) (hI : Inv σ) (hC : RelC M σ) {rb : Nat → Int} (r : Int) (h25 : ∀ s : Nat, (s : Int) < σ 0 3 → M 25 s = ow σ s (σ 0 0)) (h45 : ∀ h : Nat, (h : Int) < σ 0 1 → M 45 h = bk σ rb h) : ∃ M', f_S_pickOfGroup n r M = some (0, M') ∧ Fr cdC [1403, 48] M M' ∧ PKC M' σ (PGy σ rb r) := by
  have b1 := hI.2.1.1
  have bh := hI.1.2.1
  have go : ∀ (k s g : Nat) (M : Mm), s + k = (σ 0 3).toNat → k < g → RelC M σ → (∀ s : Nat, (s : Int) < σ 0 3 → M 25 s = ow σ s (σ 0 0)) → (∀ h : Nat, (h : Int) < σ 0 1 → M 45 h = bk σ rb h) → cn s (PGy σ rb r) ≤ 8 → M 4 3 = (cn s (PGy σ rb r) : Int) → (∀ k, k < cn s (PGy σ rb r) → M 48 k = (pkN (σ 0 3).toNat (PGy σ rb r) k : Int)) → ∃ M', lp_S_pickOfGroup_7 n g r s M = some (0, M') ∧ Fr cdC [1403, 48] M M' ∧ PKC M' σ (PGy σ rb r) := by
    intro k
    induction k with
    | zero =>
      intro s g M hs hg hC h25 h45 h8 h43 h48
      obtain ⟨g', rfl, _⟩ := f_pos hg
      have e : s = (σ 0 3).toNat := by omega
      subst e
      show ∃ M', f_S_pickOfGroup_7 n (lp_S_pickOfGroup_7 n g') r _ M = _ ∧ _
      have e2 : pkc 8 (σ 0 3).toNat (PGy σ rb r) = cn (σ 0 3).toNat (PGy σ rb r) := by unfold pkc; omega
      unfold f_S_pickOfGroup_7
      rw [ifp (by rw [hC.2.1.1]; omega)]
      exact ⟨M, rfl, Fr.rf, by rw [e2]; exact h43, by rw [e2]; exact h48⟩
    | succ k ih =>
      intro s g M hs hg hC h25 h45 h8 h43 h48
      obtain ⟨g', rfl, hg'⟩ := f_pos hg
      show ∃ M', f_S_pickOfGroup_7 n (lp_S_pickOfGroup_7 n g') r s M = _ ∧ _
      unfold f_S_pickOfGroup_7 f_S_pickOfGroup_80
      rw [ifn (by rw [hC.2.1.1]; omega), h43]
      by_cases c8 : 8 ≤ (cn s (PGy σ rb r) : Int)
      · rw [ifp c8]
        have hm := cn_mono (PGy σ rb r) (show s ≤ (σ 0 3).toNat by omega)
        have e2 : pkc 8 (σ 0 3).toNat (PGy σ rb r) = cn s (PGy σ rb r) := by unfold pkc; omega
        exact ⟨M, rfl, Fr.rf, by rw [e2]; exact h43, by rw [e2]; exact h48⟩
      · rw [ifn c8]
        have q := ow_in hI (s := s) (by omega) (σ 0 0)
        simp only [ckp (show (0 : Int) ≤ (s : Int) ∧ (s : Int) < 40 by omega), Int.toNat_natCast, h25 s (by omega), w_succ (show s < 2000000000 by omega)]
        by_cases c0 : ow σ s (σ 0 0) < 0
        · have hP : PGy σ rb r s = false := by unfold PGy; rw [decide_eq_false (by omega)]; rfl
          rw [ifp c0]
          exact ih (s + 1) g' M (by omega) hg' hC h25 h45 (by rw [cn_f hP]; exact h8) (by rw [cn_f hP]; exact h43) (by rw [cn_f hP]; exact h48)
        · rw [ifn c0, ckp (by omega), h45 _ (by omega)]
          by_cases c : bk σ rb (ow σ s (σ 0 0)).toNat = r
          · have hP : PGy σ rb r s = true := by unfold PGy grp; rw [decide_eq_true (by omega), decide_eq_true c]; rfl
            rw [ifn (show ¬ (bk σ rb (ow σ s (σ 0 0)).toNat ≠ r) from fun z => z c), ckp (by omega), mg_k _ _ _ (show (4 : Nat) ≠ 48 by decide), h43, w_succ (by omega), ← cn_t hP]
            have fr : Fr cdC [1403, 48] M (mset (mset M 48 (cn s (PGy σ rb r)) s) 4 3 (cn (s + 1) (PGy σ rb r))) := (Fr.rf.set rfl).set rfl
            obtain ⟨M2, k1, k2, k3⟩ := ih (s + 1) g' _ (by omega) hg' (hC.fr fr (by decide)) (fun y hy => by rw [fr 25 y rfl]; exact h25 y hy) (fun y hy => by rw [fr 45 y rfl]; exact h45 y hy) (by rw [cn_t hP]; omega) (mg_s _ _ _ _) (fun k hk => by
              rw [mg_k _ _ _ (by decide)]
              exact pk_step (by omega) hP (by omega) rfl M h48 k hk)
            exact ⟨M2, k1, fr.trans k2, k3⟩
          · have hP : PGy σ rb r s = false := by unfold PGy grp; rw [decide_eq_false c, Bool.and_false]
            rw [ifp c]
            exact ih (s + 1) g' M (by omega) hg' hC h25 h45 (by rw [cn_f hP]; exact h8) (by rw [cn_f hP]; exact h43) (by rw [cn_f hP]; exact h48)
  have f0 : Fr cdC [1403, 48] M (mset M 4 3 0) := Fr.rf.set rfl
  obtain ⟨M2, k1, k2, k3⟩ := go (σ 0 3).toNat 0 n (mset M 4 3 0) (by omega) (by omega) (hC.fr f0 (by decide)) (fun y hy => by rw [f0 25 y rfl]; exact h25 y hy) (fun y hy => by rw [f0 45 y rfl]; exact h45 y hy) (Nat.zero_le _) (mg_s _ _ _ _) (fun k hk => absurd hk (Nat.not_lt_zero k))
  exact ⟨M2, k1, f0.trans k2, k3⟩
theorem e_m_fr51 (n : Nat) (hn : 3000 ≤ n) (hI : Inv σ) {rb : Nat → Int} (r : Int) {v : Int} (hv : ∀ h : Nat, (h : Int) < σ 0 1 → bI v h = grp σ rb r h) (f : Nat) : ∀ (k s g : Nat) (N : Mm), s + k = (σ 0 3).toNat → k < g → AgR N σ → (∀ s : Nat, (s : Int) < σ 0 3 → N 22 s = (Wh σ s (σ 0 0)).1) → N 0 60 = ((min 8 (cn s (PGy σ rb r)) : Nat) : Int) → (∀ k, k < min 8 (cn s (PGy σ rb r)) → N 38 k = (pkN (σ 0 3).toNat (PGy σ rb r) k : Int)) → ∃ N', lp_m_free_51 n g f v s N = lp_m_free_98 n n f (-1) 1 N' ∧ AgR N' σ ∧ PKR N' σ (PGy σ rb r) := by
  have b1 := hI.2.1.1
  have bh := hI.1.2.1
  intro k
  induction k with
  | zero =>
    intro s g N hs hg hA hW h60 h38
    obtain ⟨g', rfl, _⟩ := f_pos hg
    have e : s = (σ 0 3).toNat := by omega
    subst e
    show ∃ N', f_m_free_51 n (lp_m_free_51 n g') f v _ N = _ ∧ _
    unfold f_m_free_51
    rw [ifp (by rw [hA 0 3 rfl]; omega)]
    exact ⟨N, rfl, hA, h60, h38⟩
  | succ k ih =>
    intro s g N hs hg hA hW h60 h38
    obtain ⟨g', rfl, hg'⟩ := f_pos hg
    show ∃ N', f_m_free_51 n (lp_m_free_51 n g') f v s N = _ ∧ _
    have q := ow_in hI (s := s) (by omega) (σ 0 0)
    have hw := hW s (by omega)
    unfold f_m_free_51 f_m_free_87
    simp only [ifn (show ¬ N 0 3 ≤ (s : Int) by rw [hA 0 3 rfl]; omega), ckp (show (0 : Int) ≤ (s : Int) ∧ (s : Int) < 40 by omega), Int.toNat_natCast, w_succ (show s < 2000000000 by omega), hw]
    rcases q with q | q
    · have hP : PGy σ rb r s = false := by unfold PGy; rw [decide_eq_false (by omega)]; rfl
      rw [ifp (by omega)]
      exact ih (s + 1) g' N (by omega) hg' hA hW (by rw [cn_f hP]; exact h60) (by rw [cn_f hP]; exact h38)
    · rw [← q.2.2.1, ifn (by omega)]
      obtain ⟨y, hy⟩ := nat_of q.1
      rw [hy, bit_I (by omega), hv y (by omega)]
      by_cases c : grp σ rb r y = true
      · have hP : PGy σ rb r s = true := by unfold PGy; rw [hy, decide_eq_true (by omega), Int.toNat_natCast, c]; rfl
        obtain ⟨N1, g1, g2, g3, g4⟩ := e_m_good n N (by omega) hP h60 h38
        rw [ifp c, ifn (show ¬ (1 : Int) ≠ 1 by decide), g1, bnd_mk]
        exact ih (s + 1) g' N1 (by omega) hg' (hA.fr g2 (by decide)) (fun y hy => by rw [g2 22 y rfl]; exact hW y hy) g3 g4
      · have hP : PGy σ rb r s = false := by unfold PGy; rw [hy, Int.toNat_natCast, (by simpa using c : grp σ rb r y = false), Bool.and_false]
        rw [ifn c, ifp (show (0 : Int) ≠ 1 by decide)]
        exact ih (s + 1) g' N (by omega) hg' hA hW (by rw [cn_f hP]; exact h60) (by rw [cn_f hP]; exact h38)
theorem q_free (n : Nat) (hn : 3000 ≤ n) (f : Int) (hJ : J M N) : Sim (f_W_free n f M) (f_m_free n f N) := by
  have hJ0 := hJ
  obtain ⟨σ, hI, hA, hC⟩ := hJ
  have bs := hI.2.1.1
  have bt := hI.1.1
  have b := hI.1.2.1
  have a1 : N 0 1 = σ 0 1 := hA 0 1 rfl
  unfold f_W_free f_m_free f_S_fewestToFree
  simp only [e_R_isFirm n M f (by rw [hC.1.2.1]; exact b.2), e_m_isFirm n N f (by rw [a1]; exact b), bnd_mk, a1, hC.1.2.1, hC.1.2.2.2.2.2.1, hA.row (k := 1) (fun _ => rfl)]
  by_cases c2 : 0 ≤ f ∧ f < σ 0 1 ∧ σ 1 f.toNat = 1
  · obtain ⟨x, rfl⟩ := nat_of c2.1
    have hF : isF (σ 1) x = true := isF_of (by have := c2.2.2; rw [Int.toNat_natCast] at this; exact this)
    obtain ⟨M1, M2, N1, e1, e2, e3, hJ', hA1, hC2, hB, hR, hL, -, -, hok, hW, h25, h22⟩ := both_least n hn hI hA hC bt
    simp only [ifp c2, i1, n1, hC.1.1, hA 0 0 rfl, e1, e2, e3, bnd_mk]
    generalize lstS σ (σ 0 0) (fun s => ow σ s (σ 0 0)) (fun s => si σ s (σ 0 0)) = L at hB hR hok
    have h45 : M2 45 x = L.1 x := by rw [hB.1 x c2.2.1]; unfold bk; rw [ifp hF]
    have h29 := hR.1 x (by omega)
    simp only [ckp (show (0 : Int) ≤ (x : Int) ∧ (x : Int) < 16 by omega), Int.toNat_natCast, h45]
    rcases hok.2 x with q | q
    · rw [ifp (by omega)] at h29
      rw [ifn (show ¬ 0 ≤ N1 29 x by omega), ifn (show ¬ 0 ≤ L.1 x by omega), bnd_mk]
      exact Sim.same hJ' _
    · rw [ifn (by omega)] at h29
      rw [ifp (show 0 ≤ N1 29 x by omega), ifp (show 0 ≤ L.1 x by omega), h29]
      obtain ⟨y, hy⟩ := nat_of q.2.2.1
      have hU := q.2.2.2.2
      rw [hy, Int.toNat_natCast] at hU
      obtain ⟨v, v1, v2, v3⟩ := e_m_groupOf n hn hI hA1 hR.1 (r := y) (by omega) hU
      obtain ⟨M3, p1, p2, p3⟩ := e_S_pickOfGroup n hn hI hC2 (rb := L.1) (y : Int) (fun s hs => (h25 s hs).1) hB.1
      have hS : CSt M3 σ (PGy σ L.1 y) := ⟨hC2.fr p2 (by decide), p3, hL.fr hI p2 (by decide), fun s hs => by rw [p2 25 s rfl, p2 26 s rfl]; exact h25 s hs, fun s hs _ => by rw [p2 39 s rfl, p2 40 s rfl]; exact hW s hs⟩
      have f0 : Fr cdR [1060] N1 (mset N1 0 60 0) := Fr.rf.set rfl
      obtain ⟨N2, k1, k2, k3⟩ := e_m_fr51 n hn hI (rb := L.1) (y : Int) v3 x (σ 0 3).toNat 0 n (mset N1 0 60 0) (by omega) (by omega) (hA1.fr f0 (by decide)) (fun s hs => by rw [f0 22 s rfl]; exact (h22 s hs).1) (by rw [mg_s]; rfl) (fun k hk => by
        have : k < 0 := by have h0 : cn 0 (PGy σ L.1 y) = 0 := rfl; omega
        omega)
      have bK := pkc_le 8 (σ 0 3).toNat (PGy σ L.1 y)
      have h6 : (2 : Nat) ^ pkc 8 (σ 0 3).toNat (PGy σ L.1 y) ≤ 2 ^ 8 := Nat.pow_le_pow_right (by decide) bK.1
      have h7 : 0 < (2 : Nat) ^ pkc 8 (σ 0 3).toNat (PGy σ L.1 y) := Nat.two_pow_pos _
      obtain ⟨z, M4, N4, l1, l2, l3, l4⟩ := both_fsets n hn hI c2.2.1 hF (2 ^ pkc 8 (σ 0 3).toNat (PGy σ L.1 y) - 1) 1 n none M3 N2 (by omega) (by omega) (fun b hb => by cases hb) hS k2 k3
      have l1' : lp_S_fewestToFree_53 n n x (-1) 9 1 M3 = _ := l1
      have l2' : lp_m_free_98 n n x (-1) 1 N2 = _ := l2
      have k1' : lp_m_free_51 n n x v 0 (mset N1 0 60 0) = _ := k1
      rw [hy, p1, bnd_mk, l1', bnd_mk, v1, bnd_mk, k1', l2']
      exact Sim.same ⟨σ, hI, l4, l3⟩ _
  · simp only [ifn c2, i0, n0]; exact Sim.same hJ0 _
end
