/-! LEAST: the class. -/
def BLL : List Nat := [1313, 45, 47, 150, 151, 152, 153, 154, 155, 156, 157, 158, 159, 160, 161, 162, 163, 164, 165]
def bsum (σ : Mm) (d : Int) (own sn rb : Nat → Int) (x : Nat) (r : Nat) (k : Nat) : Int := sm k (fun h => if grp σ rb r h = true then Vt σ d own sn x h else 0)
/-- blocks, their votes, and the steps so far, as the class has them -/
def CBk (M σ : Mm) (d : Int) (own sn : Nat → Int) (s : LSt) : Prop :=
  (∀ h : Nat, (h : Int) < σ 0 1 → M 45 h = bk σ s.1 h) ∧
  (∀ x : Nat, (x : Int) < σ 0 1 → isF (σ 1) x = true → ∀ r : Nat, r < 16 → M (150 + x) r = bsum σ d own sn s.1 x r (σ 0 1).toNat) ∧
  M 3 13 = (s.2.2 : Int) ∧ ∀ j : Nat, j < s.2.2 → M 47 j = s.2.1 j
section
variable {σ : Mm} {d : Int} {own sn : Nat → Int}
theorem TL.fr {M M' : Mm} {L : List Nat} (h : TL M σ d own sn) (hI : Inv σ) (f : Fr cdC L M M') (hd : (TLL.all fun x => !L.elem x) = true) : TL M' σ d own sn := by
  have b := hI.1.2.1
  intro x hx hF
  have g := List.all_eq_true.mp hd
  have h1 := h x hx hF
  have e44 : L.elem 44 = false := by simpa using g 44 (by decide)
  have er : ∀ j, M' (130 + x) j = M (130 + x) j := by
    intro j
    refine f _ _ ?_
    have e : cdC (130 + x) j = 130 + x := by unfold cdC; rw [ifn (by omega)]
    rw [e]
    have hm : ∀ x : Nat, x < 16 → 130 + x ∈ TLL := by decide
    simpa using g (130 + x) (hm x (by omega))
  refine ⟨fun j hj => by rw [er]; exact h1.1 j hj, (f 44 x e44).trans h1.2⟩
theorem bsum_in (hI : Inv σ) (rb : Nat → Int) (x r : Nat) {k : Nat} (hk : k ≤ 16) : 0 ≤ bsum σ d own sn rb x r k ∧ bsum σ d own sn rb x r k ≤ 15984 := by
  have hg : ∀ h, h < k → 0 ≤ (if grp σ rb r h = true then Vt σ d own sn x h else 0) ∧ (if grp σ rb r h = true then Vt σ d own sn x h else 0) ≤ 999 := by
    intro h _
    have := Vt_in hI d own sn x h
    split
    · exact this
    · exact ⟨by decide, by decide⟩
  have h1 := sm_nn (fun h hh => (hg h hh).1)
  have h2 := sm_ub (fun h hh => (hg h hh).2)
  unfold bsum
  omega
theorem e_U_carriedByGroup {M : Mm} (n : Nat) (hI : Inv σ) (hC : RelC M σ) (hL : LK M σ d) (hT : TL M σ d own sn) {s : LSt} (hB : CBk M σ d own sn s) {x r : Nat} (hx : (x : Int) < σ 0 1) (hF : isF (σ 1) x = true) (hr : r < 16) : f_U_carriedByGroup n x r M = some (if carB σ d own sn x (grp σ s.1 r) = true then 1 else 0, M) := by
  have b := hI.1.2.1
  have eV := hB.2.1 x hx hF r hr
  have eT := (hT x hx hF).2
  have eG := (hL.2 x hx hF).2
  have bg : gd σ x d = -5 ∨ (0 ≤ gd σ x d ∧ gd σ x d < σ 0 1) := by
    unfold gd
    split
    · right; assumption
    · left; rfl
  unfold f_U_carriedByGroup f_U_carriedByGroup_45
  simp only [ckp (show (0 : Int) ≤ (x : Int) ∧ (x : Int) < 16 by omega), ckp (show (0 : Int) ≤ (r : Int) ∧ (r : Int) < 16 by omega), Int.toNat_natCast, eV, eT, eG]
  have ec : carB σ d own sn x (grp σ s.1 r) = (decide (tf σ d own sn x < bsum σ d own sn s.1 x r (σ 0 1).toNat) && (decide (gd σ x d < 0) || grp σ s.1 r (gd σ x d).toNat)) := rfl
  rw [ec]
  by_cases c : bsum σ d own sn s.1 x r (σ 0 1).toNat ≤ tf σ d own sn x
  · rw [ifp c, decide_eq_false (show ¬ tf σ d own sn x < bsum σ d own sn s.1 x r (σ 0 1).toNat by omega)]; rfl
  · rw [ifn c, decide_eq_true (show tf σ d own sn x < bsum σ d own sn s.1 x r (σ 0 1).toNat by omega)]
    rcases bg with c2 | c2
    · rw [ifp (show gd σ x d < 0 by omega), decide_eq_true (show gd σ x d < 0 by omega)]; rfl
    · rw [ifn (show ¬ gd σ x d < 0 by omega), decide_eq_false (show ¬ gd σ x d < 0 by omega), ckp (by omega), hB.1 (gd σ x d).toNat (by omega)]
      unfold grp
      by_cases c3 : bk σ s.1 (gd σ x d).toNat = (r : Int)
      · rw [ifn (by simpa using c3), decide_eq_true c3]; rfl
      · rw [ifp c3, decide_eq_false c3]; rfl
theorem e_U_leastRuler {M : Mm} (n : Nat) (hn : 3000 ≤ n) (hI : Inv σ) (hC : RelC M σ) (hL : LK M σ d) (hT : TL M σ d own sn) {s : LSt} (hB : CBk M σ d own sn s) {x : Nat} (hx : (x : Int) < σ 0 1) (hF : isF (σ 1) x = true) : f_U_leastRuler n x M = some (if lrl σ d own sn s.1 x < (σ 0 1).toNat then (lrl σ d own sn s.1 x : Int) else -5, M) := by
  have b := hI.1.2.1
  have go : ∀ (k h g : Nat), h + k = (σ 0 1).toNat → k < g → (∀ i, i < h → (isU (σ 1) (σ 2) i && carB σ d own sn x (grp σ s.1 i)) = false) → lp_U_leastRuler_2 n g x (cn h (isU (σ 1) (σ 2))) M = some (if lrl σ d own sn s.1 x < (σ 0 1).toNat then (lrl σ d own sn s.1 x : Int) else -5, M) := by
    intro k
    induction k with
    | zero =>
      intro h g hh hg hP
      obtain ⟨g', rfl, _⟩ := f_pos hg
      have e : h = (σ 0 1).toNat := by omega
      subst e
      show f_U_leastRuler_2 n (lp_U_leastRuler_2 n g') x _ M = _
      have e2 : lrl σ d own sn s.1 x = (σ 0 1).toNat := fsn_none hP
      unfold f_U_leastRuler_2
      rw [ifp (by rw [hC.1.2.2.2.1]; omega), e2, ifn (by omega)]
    | succ k ih =>
      intro h g hh hg hP
      by_cases hU : isU (σ 1) (σ 2) h = true
      · obtain ⟨g', rfl, hg'⟩ := f_pos hg
        show f_U_leastRuler_2 n (lp_U_leastRuler_2 n g') x _ M = _
        have h20 := hC.1.2.2.2.2.2.2.2.2.1 h (by omega) hU
        have hlt := cn_lt (p := isU (σ 1) (σ 2)) (show h < (σ 0 1).toNat by omega) hU
        have hle := cn_le (isU (σ 1) (σ 2)) (σ 0 1).toNat
        unfold f_U_leastRuler_2
        rw [ifn (by rw [hC.1.2.2.2.1]; omega), ckp (by omega), Int.toNat_natCast, h20, e_U_carriedByGroup n hI hC hL hT hB hx hF (by omega), bnd_mk, w_succ (by omega), ← cn_t hU]
        by_cases c : carB σ d own sn x (grp σ s.1 h) = true
        · rw [ifp c, ifn (show ¬ (1 : Int) = 0 by decide), ckp (by omega)]
          have e2 : lrl σ d own sn s.1 x = h := fsn_eq (by omega) (by rw [hU, c]; rfl) hP
          rw [e2, ifp (by omega), h20]
        · rw [ifn c, ifp (show (0 : Int) = 0 from rfl)]
          refine ih (h + 1) g' (by omega) (by omega) fun i hi => ?_
          by_cases e : i = h
          · subst e; rw [show carB σ d own sn x (grp σ s.1 i) = false by simpa using c, Bool.and_false]
          · exact hP i (by omega)
      · have e : cn (h + 1) (isU (σ 1) (σ 2)) = cn h (isU (σ 1) (σ 2)) := cn_f (by simpa using hU)
        have := ih (h + 1) g (by omega) (by omega) (fun i hi => by
          by_cases e : i = h
          · subst e; rw [show isU (σ 1) (σ 2) i = false by simpa using hU, Bool.false_and]
          · exact hP i (by omega))
        rw [e] at this
        exact this
  exact go (σ 0 1).toNat 0 n (by omega) (by omega) (fun i hi => by omega)
theorem bk_crn (s : LSt) {x : Nat} (hF : isF (σ 1) x = true) (r : Int) (h : Nat) : bk σ (lcrn x r s).1 h = if h = x then r else bk σ s.1 h := by
  have e0 : (lcrn x r s).1 h = if h = x then r else s.1 h := rfl
  unfold bk
  rw [e0]
  by_cases e : h = x
  · subst e; rw [ifp hF, ifp rfl, ifp rfl]
  · rw [ifn e, ifn e]
theorem bsum_crn (s : LSt) {x : Nat} (hF : isF (σ 1) x = true) (hn : s.1 x < 0) (r : Nat) (y q : Nat) (k : Nat) : bsum σ d own sn (lcrn x r s).1 y q k = bsum σ d own sn s.1 y q k + (if x < k ∧ q = r then Vt σ d own sn y x else 0) := by
  unfold bsum
  have h0 : grp σ s.1 q x = false := by
    unfold grp bk
    rw [ifp hF]
    exact decide_eq_false (by omega)
  have e : (fun h => if grp σ (lcrn x r s).1 q h = true then Vt σ d own sn y h else 0) = fun h => if h = x then (if q = r then Vt σ d own sn y x else 0) else (if grp σ s.1 q h = true then Vt σ d own sn y h else 0) := by
    funext h
    unfold grp
    rw [bk_crn s hF]
    by_cases c : h = x
    · subst c
      simp only [if_true]
      by_cases c2 : q = r
      · subst c2; simp
      · rw [ifn c2, ifn]; simp; omega
    · simp only [c, if_false]
  rw [e, sm_upd, h0]
  simp only [Bool.false_eq_true, if_false, Int.sub_zero]
  by_cases c : x < k
  · by_cases c2 : q = r
    · simp [c, c2]
    · simp [c, c2]
  · simp [c]
theorem l_U_crown (n : Nat) (hI : Inv σ) {s : LSt} {x r : Nat} (hx : (x : Int) < σ 0 1) (hr : r < 16) (hF : isF (σ 1) x = true) (hn : s.1 x < 0) (h7 : s.2.2 < 7) : ∀ (k h g : Nat) (M : Mm), h + k = (σ 0 1).toNat → k < g → RelC M σ → TL M σ d own sn → (∀ y : Nat, (y : Int) < σ 0 1 → M 45 y = bk σ (lcrn x r s).1 y) → (∀ y : Nat, y < h → isF (σ 1) y = true → ∀ q : Nat, q < 16 → M (150 + y) q = bsum σ d own sn (lcrn x r s).1 y q (σ 0 1).toNat) → (∀ y : Nat, h ≤ y → (y : Int) < σ 0 1 → isF (σ 1) y = true → ∀ q : Nat, q < 16 → M (150 + y) q = bsum σ d own sn s.1 y q (σ 0 1).toNat) → M 3 13 = (s.2.2 : Int) → (∀ j : Nat, j < s.2.2 → M 47 j = s.2.1 j) →
    ∃ M', lp_U_crown_9 n g x r (cn h (isF (σ 1))) M = some (0, M') ∧ Fr cdC BLL M M' ∧ CBk M' σ d own sn (lcrn x r s) := by
  have b := hI.1.2.1
  have bf := hI.1.2.2.2.2.2
  intro k
  induction k with
  | zero =>
    intro h g M hh hg hC hT hP1 hP2 hP3 hP4 hP5
    obtain ⟨g', rfl, _⟩ := f_pos hg
    have e : h = (σ 0 1).toNat := by omega
    subst e
    show ∃ M', f_U_crown_9 n (lp_U_crown_9 n g') x r _ M = _ ∧ _
    unfold f_U_crown_9
    rw [ifp (by rw [hC.1.2.2.1]; omega), hP4, ifn (by omega), ckp (by omega), Int.toNat_natCast, mg_k _ _ _ (show (3 : Nat) ≠ 47 by decide), hP4, w_succ (by omega)]
    refine ⟨_, rfl, (Fr.rf.set rfl).set rfl, fun y hy => ?_, fun y hy hF2 q hq => ?_, mg_s _ _ _ _, fun j hj => ?_⟩
    · rw [mg_k _ _ _ (by decide), mg_k _ _ _ (by decide)]; exact hP1 y hy
    · rw [mg_k _ _ _ (by omega), mg_k _ _ _ (by omega)]; exact hP2 y (by omega) hF2 q hq
    · replace hj : j < s.2.2 + 1 := hj
      show _ = if j = s.2.2 then (x : Int) else s.2.1 j
      rw [mg_k _ _ _ (by decide)]
      by_cases e : j = s.2.2
      · rw [ifp e, e, mg_s]
      · rw [ifn e, mg_j _ _ _ e]; exact hP5 j (by omega)
  | succ k ih =>
    intro h g M hh hg hC hT hP1 hP2 hP3 hP4 hP5
    by_cases hF2 : isF (σ 1) h = true
    · obtain ⟨g', rfl, hg'⟩ := f_pos hg
      show ∃ M', f_U_crown_9 n (lp_U_crown_9 n g') x r _ M = _ ∧ _
      have h19 := hC.1.2.2.2.2.2.2.2.1 h (by omega) hF2
      have hlt := cn_lt (p := isF (σ 1)) (show h < (σ 0 1).toNat by omega) hF2
      have e150 := hP3 h (Nat.le_refl _) (by omega) hF2 r hr
      have e130 := (hT h (by omega) hF2).1 x hx
      have b1 := bsum_in (d := d) (own := own) (sn := sn) hI s.1 h r (k := (σ 0 1).toNat) (by omega)
      have b2 := Vt_in hI d own sn h x
      have eb : ∀ q : Nat, bsum σ d own sn (lcrn x r s).1 h q (σ 0 1).toNat = bsum σ d own sn s.1 h q (σ 0 1).toNat + (if q = r then Vt σ d own sn h x else 0) := by
        intro q
        rw [bsum_crn s hF hn]
        by_cases c : q = r
        · rw [ifp c, ifp ⟨by omega, c⟩]
        · rw [ifn c, ifn (fun z => c z.2)]
      unfold f_U_crown_9
      rw [ifn (by rw [hC.1.2.2.1]; omega)]
      simp only [ckp (show (0 : Int) ≤ (cn h (isF (σ 1)) : Int) ∧ (cn h (isF (σ 1)) : Int) < 7 by omega), Int.toNat_natCast, h19, ckp (show (0 : Int) ≤ (h : Int) ∧ (h : Int) < 16 by omega), ckp (show (0 : Int) ≤ (r : Int) ∧ (r : Int) < 16 by omega), ckp (show (0 : Int) ≤ (x : Int) ∧ (x : Int) < 16 by omega), e150, e130, w_succ (show cn h (isF (σ 1)) < 2000000000 by omega)]
      rw [w32_s (by omega) (by omega), ← cn_t hF2]
      have fr : Fr cdC BLL M (mset M (150 + h) r (bsum σ d own sn s.1 h r (σ 0 1).toNat + Vt σ d own sn h x)) := Fr.rf.set (el16 (by decide) (by omega) (by decide) _)
      obtain ⟨M2, k1, k2, k3⟩ := ih (h + 1) g' _ (by omega) (by omega) (hC.fr fr (by decide)) (hT.fr hI fr (by decide)) (fun y hy => by rw [mg_k _ _ _ (by omega)]; exact hP1 y hy) (by
        intro y hy hF3 q hq
        by_cases e : y = h
        · subst e
          rw [eb]
          by_cases e2 : q = r
          · rw [ifp e2, e2, mg_s]
          · rw [ifn e2, mg_j _ _ _ e2, hP3 y (Nat.le_refl _) (by omega) hF3 q hq]; omega
        · rw [mg_k _ _ _ (by omega)]; exact hP2 y (by omega) hF3 q hq) (by
        intro y hy hy2 hF3 q hq
        rw [mg_k _ _ _ (by omega)]; exact hP3 y (by omega) hy2 hF3 q hq) (by rw [mg_k _ _ _ (by omega)]; exact hP4) (fun j hj => by rw [mg_k _ _ _ (by omega)]; exact hP5 j hj)
      exact ⟨M2, k1, fr.trans k2, k3⟩
    · have e : cn (h + 1) (isF (σ 1)) = cn h (isF (σ 1)) := cn_f (by simpa using hF2)
      have := ih (h + 1) g M (by omega) (by omega) hC hT hP1 (by
        intro y hy hF3
        by_cases e : y = h
        · subst e; exact absurd hF3 hF2
        · exact hP2 y (by omega) hF3) (fun y hy hy2 hF3 => hP3 y (by omega) hy2 hF3) hP4 hP5
      rw [e] at this
      exact this
theorem e_U_crown {M : Mm} (n : Nat) (hn : 3000 ≤ n) (hI : Inv σ) (hC : RelC M σ) (hT : TL M σ d own sn) {s : LSt} (hB : CBk M σ d own sn s) {x r : Nat} (hx : (x : Int) < σ 0 1) (hr : r < 16) (hF : isF (σ 1) x = true) (hneg : s.1 x < 0) (h7 : s.2.2 < 7) : ∃ M', f_U_crown n x r M = some (0, M') ∧ Fr cdC BLL M M' ∧ CBk M' σ d own sn (lcrn x r s) := by
  have b := hI.1.2.1
  unfold f_U_crown
  rw [ckp (by omega), Int.toNat_natCast]
  have fr : Fr cdC BLL M (mset M 45 x r) := Fr.rf.set rfl
  obtain ⟨M2, k1, k2, k3⟩ := l_U_crown n hI hx hr hF hneg h7 (σ 0 1).toNat 0 n (mset M 45 x r) (by omega) (by omega) (hC.fr fr (by decide)) (hT.fr hI fr (by decide)) (by
    intro y hy
    rw [bk_crn s hF]
    by_cases e : y = x
    · rw [ifp e, e, mg_s]
    · rw [ifn e, mg_j _ _ _ e]; exact hB.1 y hy) (fun y hy => by omega) (fun y _ hy hF2 q hq => by rw [mg_k _ _ _ (by omega)]; exact hB.2.1 y hy hF2 q hq) (by rw [mg_k _ _ _ (by decide)]; exact hB.2.2.1) (fun j hj => by rw [mg_k _ _ _ (by decide)]; exact hB.2.2.2 j hj)
  exact ⟨M2, k1, fr.trans k2, k3⟩
theorem l_U_round (n : Nat) (hn : 3000 ≤ n) (hI : Inv σ) (s0 : LSt) (hs0 : okS σ s0) : ∀ (k h g : Nat) (M : Mm) (br : Int), h + k = (σ 0 1).toNat → k < g → RelC M σ → LK M σ d → TL M σ d own sn → CBk M σ d own sn (lpas σ d own sn h s0) → br = (if s0.2.2 < (lpas σ d own sn h s0).2.2 then 1 else 0) → ∃ M', lp_U_crownsInRound_4 n g br (cn h (isF (σ 1))) M = some (if s0.2.2 < (lpas σ d own sn (σ 0 1).toNat s0).2.2 then 1 else 0, M') ∧ Fr cdC BLL M M' ∧ CBk M' σ d own sn (lpas σ d own sn (σ 0 1).toNat s0) := by
  have b := hI.1.2.1
  have bf := hI.1.2.2.2.2.2
  intro k
  induction k with
  | zero =>
    intro h g M br hh hg hC hL hT hB hbr
    obtain ⟨g', rfl, _⟩ := f_pos hg
    have e : h = (σ 0 1).toNat := by omega
    subst e
    show ∃ M', f_U_crownsInRound_4 n (lp_U_crownsInRound_4 n g') br _ M = _ ∧ _
    unfold f_U_crownsInRound_4
    rw [ifp (by rw [hC.1.2.2.1]; omega)]
    exact ⟨M, by rw [hbr], Fr.rf, hB⟩
  | succ k ih =>
    intro h g M br hh hg hC hL hT hB hbr
    have hp : lpas σ d own sn (h + 1) s0 = lstp σ d own sn h (lpas σ d own sn h s0) := rfl
    have hok := okS_pas (d := d) (own := own) (sn := sn) hI hs0 (x := h) (by omega)
    by_cases hF : isF (σ 1) h = true
    · obtain ⟨g', rfl, hg'⟩ := f_pos hg
      show ∃ M', f_U_crownsInRound_4 n (lp_U_crownsInRound_4 n g') br _ M = _ ∧ _
      have h19 := hC.1.2.2.2.2.2.2.2.1 h (by omega) hF
      have hlt := cn_lt (p := isF (σ 1)) (show h < (σ 0 1).toNat by omega) hF
      have e45 : M 45 h = (lpas σ d own sn h s0).1 h := by rw [hB.1 h (by omega)]; unfold bk; rw [ifp hF]
      unfold f_U_crownsInRound_4 f_U_crownsInRound_44 f_U_crownsInRound_60
      rw [ifn (by rw [hC.1.2.2.1]; omega)]
      simp only [ckp (show (0 : Int) ≤ (cn h (isF (σ 1)) : Int) ∧ (cn h (isF (σ 1)) : Int) < 7 by omega), Int.toNat_natCast, h19, ckp (show (0 : Int) ≤ (h : Int) ∧ (h : Int) < 16 by omega), e45, w_succ (show cn h (isF (σ 1)) < 2000000000 by omega)]
      rw [← cn_t hF]
      by_cases c : 0 ≤ (lpas σ d own sn h s0).1 h
      · rw [ifp c, ifp (show (-5 : Int) < 0 by decide)]
        have e2 : lpas σ d own sn (h + 1) s0 = lpas σ d own sn h s0 := by
          rw [hp]; unfold lstp; rw [ifn (fun z => by have := z.2.1; omega)]
        exact ih (h + 1) g' M br (by omega) (by omega) hC hL hT (by rw [e2]; exact hB) (by rw [e2]; exact hbr)
      · rw [ifn c, e_U_leastRuler n hn hI hC hL hT hB (by omega) hF, bnd_mk]
        by_cases c2 : lrl σ d own sn (lpas σ d own sn h s0).1 h < (σ 0 1).toNat
        · rw [ifp c2, ifn (show ¬ ((lrl σ d own sn (lpas σ d own sn h s0).1 h : Nat) : Int) < 0 by omega)]
          obtain ⟨M1, g1, g2, g3⟩ := e_U_crown n hn hI hC hT hB (x := h) (r := lrl σ d own sn (lpas σ d own sn h s0).1 h) (by omega) (by omega) hF (by omega) (okS_lt hI hok (by omega) hF (by omega))
          rw [g1, bnd_mk]
          have e2 : lpas σ d own sn (h + 1) s0 = lcrn h (lrl σ d own sn (lpas σ d own sn h s0).1 h) (lpas σ d own sn h s0) := by
            rw [hp]; unfold lstp; rw [ifp ⟨hF, by omega, c2⟩]
          obtain ⟨M2, k1, k2, k3⟩ := ih (h + 1) g' M1 1 (by omega) (by omega) (hC.fr g2 (by decide)) (hL.fr hI g2 (by decide)) (hT.fr hI g2 (by decide)) (by rw [e2]; exact g3) (by
            rw [e2, ifp]
            show s0.2.2 < (lpas σ d own sn h s0).2.2 + 1
            rcases pas_cases σ d own sn s0 h with q | q
            · rw [q]; omega
            · omega)
          exact ⟨M2, k1, g2.trans k2, k3⟩
        · rw [ifn c2, ifp (show (-5 : Int) < 0 by decide)]
          have e2 : lpas σ d own sn (h + 1) s0 = lpas σ d own sn h s0 := by
            rw [hp]; unfold lstp; rw [ifn (fun z => c2 z.2.2)]
          exact ih (h + 1) g' M br (by omega) (by omega) hC hL hT (by rw [e2]; exact hB) (by rw [e2]; exact hbr)
    · have e : cn (h + 1) (isF (σ 1)) = cn h (isF (σ 1)) := cn_f (by simpa using hF)
      have e2 : lpas σ d own sn (h + 1) s0 = lpas σ d own sn h s0 := by
        rw [hp]; unfold lstp; rw [ifn (fun z => hF z.1)]
      have := ih (h + 1) g M br (by omega) (by omega) hC hL hT (by rw [e2]; exact hB) (by rw [e2]; exact hbr)
      rw [e] at this
      exact this
theorem l_U_clear90 (n : Nat) (hI : Inv σ) (k57 : Int → Mm → Rr) (a : Nat) (ha : a < 16) {f : Nat} (hf : (f : Int) < σ 0 1) (hF : isF (σ 1) f = true) : ∀ (k h g : Nat) (M : Mm), h + k = (σ 0 1).toNat → k < g → RelC M σ → TL M σ d own sn → (∀ y : Nat, (y : Int) < σ 0 1 → M 45 y = bk σ (fun _ => -5) y) → (∀ q : Nat, q < 16 → M (150 + f) q = bsum σ d own sn (fun _ => -5) f q h) → ∃ M', lp_U_clear_90 n k57 g a f h M = k57 ((a + 1 : Nat) : Int) M' ∧ Fr cdC BLL M M' ∧ (∀ q : Nat, q < 16 → M' (150 + f) q = bsum σ d own sn (fun _ => -5) f q (σ 0 1).toNat) ∧ (∀ k, k ≠ 150 + f → M' k = M k) := by
  have b := hI.1.2.1
  intro k
  induction k with
  | zero =>
    intro h g M hh hg hC hT hP1 hP2
    obtain ⟨g', rfl, _⟩ := f_pos hg
    have e : h = (σ 0 1).toNat := by omega
    subst e
    show ∃ M', f_U_clear_90 n k57 (lp_U_clear_90 n k57 g') a f _ M = _ ∧ _
    unfold f_U_clear_90
    rw [ifp (by rw [hC.1.2.1]; omega), w_succ (by omega)]
    exact ⟨M, rfl, Fr.rf, hP2, fun _ _ => rfl⟩
  | succ k ih =>
    intro h g M hh hg hC hT hP1 hP2
    obtain ⟨g', rfl, hg'⟩ := f_pos hg
    show ∃ M', f_U_clear_90 n k57 (lp_U_clear_90 n k57 g') a f h M = _ ∧ _
    have e45 := hP1 h (by omega)
    have e130 := (hT f hf hF).1 h (by omega)
    have es : ∀ q : Nat, bsum σ d own sn (fun _ => -5) f q (h + 1) = bsum σ d own sn (fun _ => -5) f q h + (if grp σ (fun _ => -5) q h = true then Vt σ d own sn f h else 0) := fun q => rfl
    unfold f_U_clear_90 f_U_clear_134
    simp only [ckp (show (0 : Int) ≤ (f : Int) ∧ (f : Int) < 16 by omega), ckp (show (0 : Int) ≤ (h : Int) ∧ (h : Int) < 16 by omega), Int.toNat_natCast, e45, e130, w_succ (show h < 2000000000 by omega)]
    rw [ifn (by rw [hC.1.2.1]; omega)]
    by_cases c : bk σ (fun _ => -5) h < 0
    · rw [ifp c]
      exact ih (h + 1) g' M (by omega) hg' hC hT hP1 (fun q hq => by
        rw [es, hP2 q hq, ifn]
        · omega
        · unfold grp; simp; omega)
    · rw [ifn c]
      obtain ⟨v, hv⟩ := nat_of (show 0 ≤ bk σ (fun _ => -5) h by omega)
      have hv16 : v < 16 := by
        have : bk σ (fun _ => -5) h = (hdN (σ 1) (σ 2) h : Int) := by
          unfold bk at c ⊢
          by_cases e : isF (σ 1) h = true
          · rw [ifp e] at c; exact absurd (show (-5 : Int) < 0 by decide) c
          · rw [ifn e]
        have h2 : hdN (σ 1) (σ 2) h ≤ h := by
          unfold hdN
          split
          · exact fsn_le _ _
          · exact Nat.le_refl _
        omega
      have b1 := bsum_in (d := d) (own := own) (sn := sn) hI (fun _ => -5) f v (k := h) (by omega)
      have b2 := Vt_in hI d own sn f h
      rw [hv, Int.toNat_natCast]
      simp only [ckp (show (0 : Int) ≤ (v : Int) ∧ (v : Int) < 16 by omega)]
      rw [hP2 v hv16, w32_s (by omega) (by omega)]
      have fr : Fr cdC BLL M (mset M (150 + f) v (bsum σ d own sn (fun _ => -5) f v h + Vt σ d own sn f h)) := Fr.rf.set (el16 (by decide) (by omega) (by decide) _)
      obtain ⟨M2, k1, k2, k3, k4⟩ := ih (h + 1) g' _ (by omega) hg' (hC.fr fr (by decide)) (hT.fr hI fr (by decide)) (fun y hy => by rw [mg_k _ _ _ (by omega)]; exact hP1 y hy) (fun q hq => by
        rw [es]
        by_cases e : q = v
        · subst e
          rw [mg_s, ifp]
          unfold grp; rw [hv]; simp
        · rw [mg_j _ _ _ e, hP2 q hq, ifn]
          · omega
          · unfold grp; rw [hv]; simp; omega)
      exact ⟨M2, k1, fr.trans k2, k3, fun k hk => by rw [k4 k hk, mg_k _ _ _ hk]⟩
theorem l_U_clear57 (n : Nat) (hn : 3000 ≤ n) (hI : Inv σ) : ∀ (k h g : Nat) (M : Mm), h + k = (σ 0 1).toNat → k < g → RelC M σ → TL M σ d own sn → (∀ y : Nat, (y : Int) < σ 0 1 → M 45 y = bk σ (fun _ => -5) y) → (∀ y : Nat, y < h → isF (σ 1) y = true → ∀ q : Nat, q < 16 → M (150 + y) q = bsum σ d own sn (fun _ => -5) y q (σ 0 1).toNat) → M 3 13 = 0 → ∃ M', lp_U_clear_57 n g (cn h (isF (σ 1))) M = some (0, M') ∧ Fr cdC BLL M M' ∧ CBk M' σ d own sn (litr σ d own sn 0) := by
  have b := hI.1.2.1
  have bf := hI.1.2.2.2.2.2
  intro k
  induction k with
  | zero =>
    intro h g M hh hg hC hT hP1 hP2 hP3
    obtain ⟨g', rfl, _⟩ := f_pos hg
    have e : h = (σ 0 1).toNat := by omega
    subst e
    show ∃ M', f_U_clear_57 n (lp_U_clear_57 n g') _ M = _ ∧ _
    unfold f_U_clear_57
    rw [ifp (by rw [hC.1.2.2.1]; omega)]
    exact ⟨M, rfl, Fr.rf, hP1, fun y hy hF => hP2 y (by omega) hF, hP3, fun j hj => absurd hj (Nat.not_lt_zero _)⟩
  | succ k ih =>
    intro h g M hh hg hC hT hP1 hP2 hP3
    by_cases hF : isF (σ 1) h = true
    · obtain ⟨g', rfl, hg'⟩ := f_pos hg
      show ∃ M', f_U_clear_57 n (lp_U_clear_57 n g') _ M = _ ∧ _
      have h19 := hC.1.2.2.2.2.2.2.2.1 h (by omega) hF
      have hlt := cn_lt (p := isF (σ 1)) (show h < (σ 0 1).toNat by omega) hF
      have fr : Fr cdC BLL M (mfil M (150 + h) 16 0) := Fr.rowset Fr.rf (fun j => el16 (by decide) (by omega) (by decide) j)
      unfold f_U_clear_57
      rw [ifn (by rw [hC.1.2.2.1]; omega), ckp (by omega), Int.toNat_natCast, h19, ckp (by omega), Int.toNat_natCast]
      obtain ⟨M1, g1, g2, g3, g4⟩ := l_U_clear90 (d := d) (own := own) (sn := sn) n hI (lp_U_clear_57 n g') (cn h (isF (σ 1))) (by omega) (f := h) (by omega) hF (σ 0 1).toNat 0 n (mfil M (150 + h) 16 0) (by omega) (by omega) (hC.fr fr (by decide)) (hT.fr hI fr (by decide)) (fun y hy => by rw [mfil_k _ _ _ (by omega)]; exact hP1 y hy) (fun q hq => by rw [mfil_in _ _ _ _ hq]; rfl)
      rw [show ((0 : Nat) : Int) = 0 from rfl] at g1
      rw [g1, ← cn_t hF]
      have fr2 := fr.trans g2
      obtain ⟨M2, k1, k2, k3⟩ := ih (h + 1) g' M1 (by omega) (by omega) (hC.fr fr2 (by decide)) (hT.fr hI fr2 (by decide)) (fun y hy => by rw [g4 45 (by omega), mfil_k _ _ _ (by omega)]; exact hP1 y hy) (by
        intro y hy hF2 q hq
        by_cases e : y = h
        · subst e; exact g3 q hq
        · rw [g4 (150 + y) (by omega), mfil_k _ _ _ (by omega)]; exact hP2 y (by omega) hF2 q hq) (by rw [g4 3 (by omega), mfil_k _ _ _ (by omega)]; exact hP3)
      exact ⟨M2, k1, fr2.trans k2, k3⟩
    · have e : cn (h + 1) (isF (σ 1)) = cn h (isF (σ 1)) := cn_f (by simpa using hF)
      have := ih (h + 1) g M (by omega) (by omega) hC hT hP1 (by
        intro y hy hF3
        by_cases e : y = h
        · subst e; exact absurd hF3 hF
        · exact hP2 y (by omega) hF3) hP3
      rw [e] at this
      exact this
theorem e_U_clear {M : Mm} (n : Nat) (hn : 3000 ≤ n) (hI : Inv σ) (hC : RelC M σ) (hT : TL M σ d own sn) : ∃ M', f_U_clear n M = some (0, M') ∧ Fr cdC BLL M M' ∧ CBk M' σ d own sn (litr σ d own sn 0) := by
  have b := hI.1.2.1
  have go : ∀ (k h g : Nat) (M : Mm), h + k = (σ 0 1).toNat → k < g → RelC M σ → (∀ y : Nat, y < h → M 45 y = bk σ (fun _ => -5) y) → ∃ M', lp_U_clear_7 n g h M = lp_U_clear_57 n n 0 M' ∧ Fr cdC [45] M M' ∧ (∀ y : Nat, (y : Int) < σ 0 1 → M' 45 y = bk σ (fun _ => -5) y) := by
    intro k
    induction k with
    | zero =>
      intro h g M hh hg hC hP
      obtain ⟨g', rfl, _⟩ := f_pos hg
      show ∃ M', f_U_clear_7 n (lp_U_clear_7 n g') h M = _ ∧ _
      unfold f_U_clear_7
      rw [ifp (by rw [hC.1.2.1]; omega)]
      exact ⟨M, rfl, Fr.rf, fun y hy => hP y (by omega)⟩
    | succ k ih =>
      intro h g M hh hg hC hP
      obtain ⟨g', rfl, hg'⟩ := f_pos hg
      show ∃ M', f_U_clear_7 n (lp_U_clear_7 n g') h M = _ ∧ _
      have m11 := hC.1.2.1
      have m17 := hC.1.2.2.2.2.2.1
      have m18 := hC.1.2.2.2.2.2.2.1 h (by omega)
      unfold f_U_clear_7 f_U_clear_48
      rw [ifn (by rw [m11]; omega), e_R_isFirm n M h (by rw [m11]; exact b.2), bnd_mk, m11, m17, Int.toNat_natCast, m18]
      simp only [ckp (show (0 : Int) ≤ (h : Int) ∧ (h : Int) < 16 by omega), w_succ (show h < 2000000000 by omega)]
      have fin : ∀ v, v = bk σ (fun _ => -5) h → ∃ M', lp_U_clear_7 n g' ((h + 1 : Nat) : Int) (mset M 45 h v) = lp_U_clear_57 n n 0 M' ∧ Fr cdC [45] M M' ∧ (∀ y : Nat, (y : Int) < σ 0 1 → M' 45 y = bk σ (fun _ => -5) y) := by
        intro v hv
        have fr : Fr cdC [45] M (mset M 45 h v) := Fr.rf.set rfl
        obtain ⟨M2, k1, k2, k3⟩ := ih (h + 1) g' _ (by omega) hg' (hC.fr fr (by decide)) (by
          intro y hy
          by_cases e : y = h
          · rw [e, mg_s, hv]
          · rw [mg_j _ _ _ e]; exact hP y (by omega))
        exact ⟨M2, k1, fr.trans k2, k3⟩
      by_cases c : isF (σ 1) h = true
      · have c' : σ 1 h = 1 := by simpa [isF] using c
        simp only [ifp (show 0 ≤ (h : Int) ∧ (h : Int) < σ 0 1 ∧ σ 1 h = 1 from ⟨by omega, by omega, c'⟩), i1]
        exact fin _ (by unfold bk; rw [ifp c])
      · have c' : ¬ σ 1 h = 1 := by simpa [isF] using c
        simp only [ifn (show ¬ (0 ≤ (h : Int) ∧ (h : Int) < σ 0 1 ∧ σ 1 h = 1) from fun z => c' z.2.2), i0]
        exact fin _ (by unfold bk; rw [ifn c])
  have f0 : Fr cdC BLL M (mset M 3 13 0) := Fr.rf.set rfl
  obtain ⟨M1, g1, g2, g3⟩ := go (σ 0 1).toNat 0 n (mset M 3 13 0) (by omega) (by omega) (hC.fr f0 (by decide)) (fun y hy => by omega)
  have f1 : Fr cdC BLL M M1 := f0.trans (g2.mono (by decide))
  obtain ⟨M2, k1, k2, k3⟩ := l_U_clear57 n hn hI (σ 0 1).toNat 0 n M1 (by omega) (by omega) (hC.fr f1 (by decide)) (hT.fr hI f1 (by decide)) g3 (fun y hy => by omega) (by rw [g2 3 13 rfl, mg_s])
  refine ⟨M2, ?_, f1.trans k2, k3⟩
  unfold f_U_clear
  have g1' : lp_U_clear_7 n n 0 (mset M 3 13 0) = _ := g1
  rw [g1']
  exact k1
theorem l_U_least (n : Nat) (hn : 3000 ≤ n) (hI : Inv σ) : ∀ (k i g : Nat) (M : Mm) (br : Int), i + k = 8 → k < g → RelC M σ → LK M σ d → TL M σ d own sn → CBk M σ d own sn (litr σ d own sn i) → (br = 0 → litr σ d own sn (i + 1) = litr σ d own sn i) → ∃ M', lp_U_least_12 n g br i M = some (0, M') ∧ Fr cdC BLL M M' ∧ CBk M' σ d own sn (lstS σ d own sn) := by
  have b := hI.1.2.1
  intro k
  induction k with
  | zero =>
    intro i g M br hi hg hC hL hT hB hbr
    obtain ⟨g', rfl, _⟩ := f_pos hg
    have e : i = 8 := by omega
    subst e
    show ∃ M', f_U_least_12 n (lp_U_least_12 n g') br (8 : Nat) M = _ ∧ _
    unfold f_U_least_12
    rw [ifp (by decide)]
    exact ⟨M, rfl, Fr.rf, hB⟩
  | succ k ih =>
    intro i g M br hi hg hC hL hT hB hbr
    obtain ⟨g', rfl, hg'⟩ := f_pos hg
    show ∃ M', f_U_least_12 n (lp_U_least_12 n g') br i M = _ ∧ _
    unfold f_U_least_12
    rw [ifn (by omega)]
    by_cases c : br = 0
    · rw [ifp c]
      refine ⟨M, rfl, Fr.rf, ?_⟩
      rw [← itr_lst hI (hbr c)]
      exact hB
    · rw [ifn c]
      obtain ⟨M1, g1, g2, g3⟩ := l_U_round (d := d) (own := own) (sn := sn) n hn hI (litr σ d own sn i) (okS_itr hI d own sn i) (σ 0 1).toNat 0 n M 0 (by omega) (by omega) hC hL hT hB (by rw [ifn]; exact Nat.lt_irrefl _)
      have g1' : f_U_crownsInRound n M = _ := g1
      rw [g1', bnd_mk, w_succ (by omega)]
      obtain ⟨M2, k1, k2, k3⟩ := ih (i + 1) g' M1 (if (litr σ d own sn i).2.2 < (lpas σ d own sn (σ 0 1).toNat (litr σ d own sn i)).2.2 then 1 else 0) (by omega) hg' (hC.fr g2 (by decide)) (hL.fr hI g2 (by decide)) (hT.fr hI g2 (by decide)) g3 (by
        intro hz
        have hnot : ¬ (litr σ d own sn i).2.2 < (lpas σ d own sn (σ 0 1).toNat (litr σ d own sn i)).2.2 := by
          intro q
          rw [ifp q] at hz
          cases hz
        rcases pas_cases σ d own sn (litr σ d own sn i) (σ 0 1).toNat with q | q
        · have e : litr σ d own sn (i + 1) = litr σ d own sn i := q
          show lpas σ d own sn (σ 0 1).toNat (litr σ d own sn (i + 1)) = _
          rw [e]; exact e
        · exact absurd q hnot)
      exact ⟨M2, k1, g2.trans k2, k3⟩
def LSTL : List Nat := [1313, 44, 45, 47, 130, 131, 132, 133, 134, 135, 136, 137, 138, 139, 140, 141, 142, 143, 144, 145, 150, 151, 152, 153, 154, 155, 156, 157, 158, 159, 160, 161, 162, 163, 164, 165]
/-- the class's LEAST, over the owners as supposed -/
theorem e_U_least {M : Mm} (n : Nat) (hn : 3000 ≤ n) (hI : Inv σ) (hC : RelC M σ) (hL : LK M σ d) (hO : okO σ own sn) (hW : OW M σ d own sn) : ∃ M', f_U_least n M = some (0, M') ∧ Fr cdC LSTL M M' ∧ TL M' σ d own sn ∧ CBk M' σ d own sn (lstS σ d own sn) := by
  obtain ⟨M1, g1, g2, g3⟩ := e_U_tally n hn hI hC hL hO hW
  have hC1 := hC.fr g2 (by decide)
  have hL1 := hL.fr hI g2 (by decide)
  obtain ⟨M2, k1, k2, k3⟩ := e_U_clear n hn hI hC1 g3
  have hC2 := hC1.fr k2 (by decide)
  have hT2 := g3.fr hI k2 (by decide)
  obtain ⟨M3, m1, m2, m3⟩ := l_U_least n hn hI 8 0 n M2 1 (by omega) (by omega) hC2 (hL1.fr hI k2 (by decide)) hT2 k3 (fun q => by cases q)
  refine ⟨M3, ?_, ((g2.mono (by decide)).trans (k2.mono (by decide))).trans (m2.mono (by decide)), hT2.fr hI m2 (by decide), m3⟩
  unfold f_U_least
  rw [g1, bnd_mk, k1, bnd_mk]
  exact m1
end
