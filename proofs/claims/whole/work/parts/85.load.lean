/-! What holders have of each firm now: the class's table; what nobody has: the reference. -/
section
variable {σ : Mm} {M N : Mm}
def LDL : List Nat := [25, 26, 57, 180, 181, 182, 183, 184, 185, 186, 187, 188, 189, 190, 191, 192, 193, 194, 195]
/-- points of firm c that h has now, among the first k shares -/
def hpt (σ : Mm) (c h : Nat) (k : Nat) : Int := sm k (fun s => if σ 3 s = (c : Int) ∧ ow σ s (σ 0 0) = (h : Int) then σ 5 s else 0)
/-- points of firm c that anybody has -/
def hpa (σ : Mm) (c : Nat) (k : Nat) : Int := sm k (fun s => if σ 3 s = (c : Int) ∧ 0 ≤ ow σ s (σ 0 0) then σ 5 s else 0)
theorem hpt_in (hI : Inv σ) (c h : Nat) {k : Nat} (hk : (k : Int) ≤ σ 0 3) : 0 ≤ hpt σ c h k ∧ hpt σ c h k ≤ k * 12 := by
  have p4 := hI.2.1.2.2.2.1
  have hg : ∀ s, s < k → 0 ≤ (if σ 3 s = (c : Int) ∧ ow σ s (σ 0 0) = (h : Int) then σ 5 s else 0) ∧ (if σ 3 s = (c : Int) ∧ ow σ s (σ 0 0) = (h : Int) then σ 5 s else 0) ≤ 12 := by
    intro s hs
    have := (p4 s (by omega)).2.2.1
    split
    · exact this
    · exact ⟨by decide, by decide⟩
  exact ⟨sm_nn (fun s hs => (hg s hs).1), sm_ub (fun s hs => (hg s hs).2)⟩
theorem hpa_in (hI : Inv σ) (c : Nat) {k : Nat} (hk : (k : Int) ≤ σ 0 3) : 0 ≤ hpa σ c k ∧ hpa σ c k ≤ k * 12 := by
  have p4 := hI.2.1.2.2.2.1
  have hg : ∀ s, s < k → 0 ≤ (if σ 3 s = (c : Int) ∧ 0 ≤ ow σ s (σ 0 0) then σ 5 s else 0) ∧ (if σ 3 s = (c : Int) ∧ 0 ≤ ow σ s (σ 0 0) then σ 5 s else 0) ≤ 12 := by
    intro s hs
    have := (p4 s (by omega)).2.2.1
    split
    · exact this
    · exact ⟨by decide, by decide⟩
  exact ⟨sm_nn (fun s hs => (hg s hs).1), sm_ub (fun s hs => (hg s hs).2)⟩
/-- the class's table, after the first k shares -/
def LDt (M σ : Mm) (k : Nat) : Prop := ∀ c : Nat, (c : Int) < σ 0 1 → isF (σ 1) c = true → (∀ h : Nat, h < 16 → M (180 + c) h = hpt σ c h k) ∧ M 57 c = 12 - hpa σ c k
theorem l_F_load16 (n : Nat) (hn : 3000 ≤ n) (hI : Inv σ) : ∀ (r h g : Nat) (M : Mm), h + r = (σ 0 1).toNat → r < g → RelC M σ → (∀ x : Nat, x < h → isF (σ 1) x = true → (∀ i : Nat, i < 16 → M (180 + x) i = 0) ∧ M 57 x = 12) → ∃ M', lp_F_load_16 n g (cn h (isF (σ 1))) M = lp_F_load_69 n n 0 M' ∧ Fr cdC LDL M M' ∧ Fr cdC (LDL.drop 2) M M' ∧ LDt M' σ 0 := by
  have bh := hI.1.2.1
  have h7 : (cn (σ 0 1).toNat (isF (σ 1)) : Int) ≤ 7 := by have := hI.1.2.2.2.2.2; omega
  intro r
  induction r with
  | zero =>
    intro h g M hh hg hC hP
    obtain ⟨g', rfl, _⟩ := f_pos hg
    have e : h = (σ 0 1).toNat := by omega
    subst e
    show ∃ M', f_F_load_16 n (lp_F_load_16 n g') _ M = _ ∧ _
    unfold f_F_load_16
    rw [ifp (by rw [hC.1.2.2.1, hI.1.2.2.2.2.2.1]; omega)]
    exact ⟨M, rfl, Fr.rf, Fr.rf, fun c hc hF => ⟨fun i hi => (hP c (by omega) hF).1 i hi, (hP c (by omega) hF).2⟩⟩
  | succ r ih =>
    intro h g M hh hg hC hP
    by_cases hF : isF (σ 1) h = true
    · obtain ⟨g', rfl, hg'⟩ := f_pos hg
      show ∃ M', f_F_load_16 n (lp_F_load_16 n g') _ M = _ ∧ _
      have h19 := hC.1.2.2.2.2.2.2.2.1 h (by omega) hF
      have hlt := cn_lt (p := isF (σ 1)) (show h < (σ 0 1).toNat by omega) hF
      unfold f_F_load_16
      rw [ifn (by rw [hC.1.2.2.1, hI.1.2.2.2.2.2.1]; omega), ckp (by omega), Int.toNat_natCast, h19, ckp (by omega), ckp (by omega), Int.toNat_natCast, mfil_k M 16 0 (show 19 ≠ 180 + h by omega), h19, ckp (by omega), Int.toNat_natCast, w_succ (by omega), ← cn_t hF]
      have fr : Fr cdC (LDL.drop 2) M (mset (mfil M (180 + h) 16 0) 57 h 12) := (Fr.rowset Fr.rf (fun j => el16 (by decide) (by omega) (by decide) j)).set rfl
      obtain ⟨M2, k1, k2, k3, k4⟩ := ih (h + 1) g' _ (by omega) (by omega) (hC.fr fr (by decide)) (by
        intro x hx hF2
        by_cases e : x = h
        · subst e
          refine ⟨fun i hi => ?_, mg_s _ _ _ _⟩
          rw [mg_k _ _ _ (by omega), mfil_in _ _ _ _ hi]
        · have p := hP x (by omega) hF2
          refine ⟨fun i hi => ?_, ?_⟩
          · rw [mg_k _ _ _ (by omega), mfil_k _ _ _ (by omega)]; exact p.1 i hi
          · rw [mg_j _ _ _ e, mfil_k _ _ _ (by omega)]; exact p.2)
      exact ⟨M2, k1, (fr.mono (by decide)).trans k2, fr.trans k3, k4⟩
    · have e : cn (h + 1) (isF (σ 1)) = cn h (isF (σ 1)) := cn_f (by simpa using hF)
      have := ih (h + 1) g M (by omega) (by omega) hC (by
        intro x hx hF2
        by_cases e : x = h
        · subst e; exact absurd hF2 hF
        · exact hP x (by omega) hF2)
      rw [e] at this
      exact this
theorem l_F_load69 (n : Nat) (hn : 3000 ≤ n) (hI : Inv σ) : ∀ (r s g : Nat) (M : Mm), s + r = (σ 0 3).toNat → r < g → RelC M σ → (∀ s : Nat, (s : Int) < σ 0 3 → M 25 s = ow σ s (σ 0 0)) → LDt M σ s → ∃ M', lp_F_load_69 n g s M = some (0, M') ∧ Fr cdC (LDL.drop 2) M M' ∧ LDt M' σ (σ 0 3).toNat := by
  have bh := hI.1.2.1
  have b1 := hI.2.1.1
  have p4 := hI.2.1.2.2.2.1
  intro r
  induction r with
  | zero =>
    intro s g M hs hg hC h25 hL
    obtain ⟨g', rfl, _⟩ := f_pos hg
    have e : s = (σ 0 3).toNat := by omega
    subst e
    show ∃ M', f_F_load_69 n (lp_F_load_69 n g') _ M = _ ∧ _
    unfold f_F_load_69
    rw [ifp (by rw [hC.2.1.1]; omega)]
    exact ⟨M, rfl, Fr.rf, hL⟩
  | succ r ih =>
    intro s g M hs hg hC h25 hL
    obtain ⟨g', rfl, hg'⟩ := f_pos hg
    show ∃ M', f_F_load_69 n (lp_F_load_69 n g') s M = _ ∧ _
    have q := ow_in hI (s := s) (by omega) (σ 0 0)
    have ps := p4 s (by omega)
    have m21 := hC.2.1.2.2.1
    have m22 := hC.2.1.2.2.2.1
    unfold f_F_load_69 f_F_load_154
    rw [ifn (by rw [hC.2.1.1]; omega), w_succ (by omega)]
    simp only [ckp (show (0 : Int) ≤ (s : Int) ∧ (s : Int) < 40 by omega), Int.toNat_natCast, h25 s (by omega)]
    rcases q with q | q
    · rw [ifp (by omega)]
      refine ih (s + 1) g' M (by omega) hg' hC h25 fun c hc hF => ?_
      have p := hL c hc hF
      refine ⟨fun h hh => ?_, ?_⟩
      · rw [p.1 h hh]
        show _ = hpt σ c h s + (if σ 3 s = (c : Int) ∧ ow σ s (σ 0 0) = (h : Int) then σ 5 s else 0)
        rw [ifn (by omega)]; omega
      · rw [p.2]
        show _ = 12 - (hpa σ c s + (if σ 3 s = (c : Int) ∧ 0 ≤ ow σ s (σ 0 0) then σ 5 s else 0))
        rw [ifn (by omega)]; omega
    · rw [ifn (by omega)]
      obtain ⟨y, hy⟩ := nat_of q.1
      obtain ⟨c, hc⟩ := nat_of ps.1.1
      have hcF : isF (σ 1) c = true := isF_of (by have := ps.1.2.2; rw [hc, Int.toNat_natCast] at this; exact this)
      have L := hL c (by omega) hcF
      have ht := hpt_in hI c y (show (s : Int) ≤ σ 0 3 by omega)
      have ha := hpa_in hI c (show (s : Int) ≤ σ 0 3 by omega)
      simp only [m21, m22, hy, hc, Int.toNat_natCast, ckp (show (0 : Int) ≤ (c : Int) ∧ (c : Int) < 16 by omega), ckp (show (0 : Int) ≤ (y : Int) ∧ (y : Int) < 16 by omega), mg_k _ _ _ (show 21 ≠ 180 + c by omega), mg_k _ _ _ (show 22 ≠ 180 + c by omega), mg_k _ _ _ (show 57 ≠ 180 + c by omega), L.1 y (by omega), L.2]
      rw [w32_s (by omega) (by omega), w32_s (by omega) (by omega)]
      have fr : Fr cdC (LDL.drop 2) M (mset (mset M (180 + c) y (hpt σ c y s + σ 5 s)) 57 c (12 - hpa σ c s - σ 5 s)) := (Fr.rf.set (el16 (by decide) (by omega) (by decide) _)).set rfl
      obtain ⟨M2, k1, k2, k3⟩ := ih (s + 1) g' (mset (mset M (180 + c) y (hpt σ c y s + σ 5 s)) 57 c (12 - hpa σ c s - σ 5 s)) (by omega) hg' (hC.fr fr (by decide)) (fun z hz => by rw [fr 25 z rfl]; exact h25 z hz) (fun c2 hc2 hF2 => by
        have p := hL c2 hc2 hF2
        refine ⟨fun h hh => ?_, ?_⟩
        · show _ = hpt σ c2 h s + (if σ 3 s = (c2 : Int) ∧ ow σ s (σ 0 0) = (h : Int) then σ 5 s else 0)
          rw [mg_k _ _ _ (by omega)]
          by_cases e : c2 = c
          · subst e
            by_cases e2 : h = y
            · subst e2
              rw [mg_s, ifp ⟨by omega, by omega⟩]
            · rw [mg_j _ _ _ e2, p.1 h hh, ifn (by omega)]; omega
          · rw [mg_k _ _ _ (by omega), p.1 h hh, ifn (by omega)]; omega
        · show _ = 12 - (hpa σ c2 s + (if σ 3 s = (c2 : Int) ∧ 0 ≤ ow σ s (σ 0 0) then σ 5 s else 0))
          by_cases e : c2 = c
          · subst e
            rw [mg_s, ifp ⟨by omega, by omega⟩]; omega
          · rw [mg_j _ _ _ e, mg_k _ _ _ (by omega), p.2, ifn (by omega)]; omega)
      exact ⟨M2, k1, fr.trans k2, k3⟩
theorem e_F_load (n : Nat) (hn : 3000 ≤ n) (hI : Inv σ) (hC : RelC M σ) : ∃ M', f_F_load n M = some (0, M') ∧ Fr cdC LDL M M' ∧ LDt M' σ (σ 0 3).toNat ∧ ∀ s : Nat, (s : Int) < σ 0 3 → M' 25 s = ow σ s (σ 0 0) := by
  have bh := hI.1.2.1
  have b1 := hI.2.1.1
  obtain ⟨M1, g1, g2, g3⟩ := e_R_lookAt n (by omega) hI hC (σ 0 0)
  have hC1 := hC.fr g2 rfl
  obtain ⟨M2, k1, k2, k3, k4⟩ := l_F_load16 n hn hI (σ 0 1).toNat 0 n M1 (by omega) (by omega) hC1 (fun x hx => absurd hx (Nat.not_lt_zero x))
  obtain ⟨M3, m1, m2, m3⟩ := l_F_load69 n hn hI (σ 0 3).toNat 0 n M2 (by omega) (by omega) (hC1.fr k2 (by decide)) (fun s hs => by rw [k3 25 s rfl]; exact (g3 s hs).1) k4
  have k1' : lp_F_load_16 n n 0 M1 = _ := k1
  have m1' : lp_F_load_69 n n 0 M2 = _ := m1
  refine ⟨M3, ?_, ((g2.mono (by decide)).trans k2).trans (m2.mono (by decide)), m3, fun s hs => by rw [m2 25 s rfl, k3 25 s rfl]; exact (g3 s hs).1⟩
  unfold f_F_load
  rw [hC.1.1, g1, bnd_mk, k1', m1']
/-- the reference: what nobody has of a firm -/
theorem e_m_missing (n : Nat) (hn : 3000 ≤ n) (hI : Inv σ) (hA : AgR N σ) (hW : ∀ s : Nat, (s : Int) < σ 0 3 → N 22 s = (Wh σ s (σ 0 0)).1) (c : Nat) : f_m_missing n c N = some (12 - hpa σ c (σ 0 3).toNat, N) := by
  have b1 := hI.2.1.1
  have p4 := hI.2.1.2.2.2.1
  have go : ∀ (r s g : Nat), s + r = (σ 0 3).toNat → r < g → lp_m_missing_5 n g c (12 - hpa σ c s) s N = some (12 - hpa σ c (σ 0 3).toNat, N) := by
    intro r
    induction r with
    | zero =>
      intro s g hs hg
      obtain ⟨g', rfl, _⟩ := f_pos hg
      show f_m_missing_5 n (lp_m_missing_5 n g') c _ s N = _
      unfold f_m_missing_5
      rw [ifp (by rw [hA 0 3 rfl]; omega), show s = (σ 0 3).toNat by omega]
    | succ r ih =>
      intro s g hs hg
      obtain ⟨g', rfl, hg'⟩ := f_pos hg
      show f_m_missing_5 n (lp_m_missing_5 n g') c _ s N = _
      have q := ow_in hI (s := s) (by omega) (σ 0 0)
      have ps := p4 s (by omega)
      have ha := hpa_in hI c (show (s : Int) ≤ σ 0 3 by omega)
      have I := ih (s + 1) g' (by omega) hg'
      have e : hpa σ c (s + 1) = hpa σ c s + (if σ 3 s = (c : Int) ∧ 0 ≤ ow σ s (σ 0 0) then σ 5 s else 0) := rfl
      unfold f_m_missing_5 f_m_missing_42 f_m_missing_43
      rw [ifn (by rw [hA 0 3 rfl]; omega), w_succ (by omega), w32_s (by omega) (by omega)]
      simp only [ckp (show (0 : Int) ≤ (s : Int) ∧ (s : Int) < 40 by omega), Int.toNat_natCast, hA.row (k := 3) (fun _ => rfl), hA.row (k := 5) (fun _ => rfl), hW s (by omega)]
      by_cases c1 : σ 3 s ≠ (c : Int)
      · rw [ifp c1]
        rw [e, ifn (fun z => c1 z.1)] at I
        rw [show 12 - hpa σ c s - 0 = 12 - (hpa σ c s + 0) by omega]
        exact I
      · rw [ifn c1]
        by_cases c2 : (Wh σ s (σ 0 0)).1 < 0
        · rw [ifp c2]
          rw [e, ifn (fun z => by omega)] at I
          rw [show 12 - hpa σ c s - 0 = 12 - (hpa σ c s + 0) by omega]
          exact I
        · rw [ifn c2, w32_s (by omega) (by omega)]
          rw [e, ifp ⟨by omega, by omega⟩] at I
          rw [show 12 - hpa σ c s - σ 5 s = 12 - (hpa σ c s + σ 5 s) by omega]
          exact I
  exact go (σ 0 3).toNat 0 n (by omega) (by omega)
end
