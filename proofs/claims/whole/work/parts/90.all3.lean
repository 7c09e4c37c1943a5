/-! all(..): the class's rows; the call. -/
section
variable {σ : Mm} {M N : Mm} {d : Int} {own sn : Nat → Int}
/-- the table, for each firm and ruler -/
def CARS (M σ : Mm) (d : Int) (own sn : Nat → Int) : Prop := ∀ x : Nat, (x : Int) < σ 0 1 → isF (σ 1) x = true → ∀ y : Nat, (y : Int) < σ 0 1 → isU (σ 1) (σ 2) y = true → CAx M σ d own sn x y
/-- a row, as the class has it -/
def ROWC (M σ : Mm) (v : Nat) : Prop := (∀ k, k < cFN σ → M 50 k = (dgi σ v k : Int)) ∧ ∀ g, g < cRN σ + 1 → inR (M 51 g) ∧ ∀ i, i < 32 → bI (M 51 g) i = (decide (i < cFN σ) && decide (dgi σ v i = g))
theorem l_S_setRow (n : Nat) (hI : Inv σ) (hF5 : cFN σ ≤ 5) (hR4 : cRN σ ≤ 4) (v : Nat) (hv : v < 1000000) : ∀ (k j g : Nat) (M : Mm), k + j = cFN σ → k < g → RelC M σ → (∀ i, k ≤ i → i < cFN σ → M 50 i = (dgi σ v i : Int)) → (∀ g, g < cRN σ + 1 → inR (M 51 g) ∧ ∀ i, i < 32 → bI (M 51 g) i = (decide (k ≤ i) && (decide (i < cFN σ) && decide (dgi σ v i = g)))) → ∃ M', lp_S_setRow_24 n g (dvn (cRN σ + 1) v j) ((k : Int) - 1) M = some (0, M') ∧ Fr cdC [50, 51] M M' ∧ ROWC M' σ v := by
  intro k
  induction k with
  | zero =>
    intro j g M hk hg hC h50 h51
    obtain ⟨g', rfl, _⟩ := f_pos hg
    show ∃ M', f_S_setRow_24 n (lp_S_setRow_24 n g') _ _ M = _ ∧ _
    unfold f_S_setRow_24
    rw [ifp (by omega)]
    exact ⟨M, rfl, Fr.rf, fun i hi => h50 i (Nat.zero_le _) hi, fun g hg => ⟨(h51 g hg).1, fun i hi => by rw [(h51 g hg).2 i hi]; simp⟩⟩
  | succ k ih =>
    intro j g M hk hg hC h50 h51
    obtain ⟨g', rfl, hg'⟩ := f_pos hg
    show ∃ M', f_S_setRow_24 n (lp_S_setRow_24 n g') _ _ M = _ ∧ _
    have m13 : M 1 3 = (cRN σ : Int) := hC.1.2.2.2.1
    have hdl := dvn_le (cRN σ + 1) v j
    have hdg : dgi σ v k = dvn (cRN σ + 1) v j % (cRN σ + 1) := by unfold dgi; rw [show cFN σ - 1 - k = j by omega]
    have hdlt := dgi_lt σ v k
    have eB : w32 (min (cRN σ : Int) 4 + 1) = ((cRN σ + 1 : Nat) : Int) := by rw [w32_s (by omega) (by omega)]; omega
    have eR : irm ((dvn (cRN σ + 1) v j : Nat) : Int) ((cRN σ + 1 : Nat) : Int) = ((dgi σ v k : Nat) : Int) := by rw [irm_nn (by omega) (by omega), hdg]; rfl
    have eD : idv ((dvn (cRN σ + 1) v j : Nat) : Int) ((cRN σ + 1 : Nat) : Int) = ((dvn (cRN σ + 1) v (j + 1) : Nat) : Int) := by rw [idv_nn (by omega) (by omega)]; rfl
    have hb := h51 (dgi σ v k) hdlt
    unfold f_S_setRow_24
    simp only [ifn (show ¬ ((k + 1 : Nat) : Int) - 1 < 0 by omega), show ((k + 1 : Nat) : Int) - 1 = (k : Int) by omega, Int.toNat_natCast, m13, eB, eR, mg_k _ _ _ (show (1 : Nat) ≠ 50 by decide), mg_s, eD, mg_k _ _ _ (show (51 : Nat) ≠ 50 by decide)]
    rw [ckp (by omega), ckp (by omega), ckp (by omega), ckp (by omega), ckp (by omega), ckp (by omega), w32_s (by omega) (by omega)]
    have fr : Fr cdC [50, 51] M (mset (mset M 50 k (dgi σ v k)) 51 (dgi σ v k) (ior (M 51 (dgi σ v k)) (ish 1 k))) := (Fr.rf.set rfl).set rfl
    obtain ⟨M2, k1, k2, k3⟩ := ih (j + 1) g' (mset (mset M 50 k (dgi σ v k)) 51 (dgi σ v k) (ior (M 51 (dgi σ v k)) (ish 1 k))) (by omega) hg' (hC.fr fr (by decide)) (fun i h1 h2 => by
      rw [mg_k _ _ _ (by decide)]
      by_cases e : i = k
      · rw [e, mg_s]
      · rw [mg_j _ _ _ e]; exact h50 i (by omega) h2) (fun g hg => by
      by_cases e : g = dgi σ v k
      · rw [e, mg_s]
        refine ⟨ir_or _ _, fun i hi => ?_⟩
        rw [bI_or, hb.2 i hi, bI_bit (by omega)]
        by_cases e2 : i = k
        · subst e2
          simp; omega
        · rw [decide_eq_false e2, Bool.or_false]
          by_cases e3 : k + 1 ≤ i
          · rw [decide_eq_true e3, decide_eq_true (show k ≤ i by omega)]
          · rw [decide_eq_false e3, decide_eq_false (show ¬ k ≤ i by omega)]
      · rw [mg_j _ _ _ e, mg_k _ _ _ (by decide)]
        refine ⟨(h51 g hg).1, fun i hi => ?_⟩
        rw [(h51 g hg).2 i hi]
        by_cases e2 : i = k
        · subst e2
          rw [decide_eq_false (show ¬ dgi σ v i = g from fun q => e q.symm)]; simp
        · by_cases e3 : k + 1 ≤ i
          · rw [decide_eq_true e3, decide_eq_true (show k ≤ i by omega)]
          · rw [decide_eq_false e3, decide_eq_false (show ¬ k ≤ i by omega)])
    exact ⟨M2, k1, fr.trans k2, k3⟩
theorem e_S_setRow (n : Nat) (hn : 3000 ≤ n) (hI : Inv σ) (hC : RelC M σ) (hF5 : cFN σ ≤ 5) (hR4 : cRN σ ≤ 4) (v : Nat) (hv : v < 1000000) : ∃ M', f_S_setRow n v M = some (0, M') ∧ Fr cdC [50, 51] M M' ∧ ROWC M' σ v := by
  have fr : Fr cdC [50, 51] M (mfil M 51 5 0) := Fr.rf.rowset fun _ => rfl
  have m12 : mfil M 51 5 0 1 2 = (cFN σ : Int) := by rw [mfil_k _ _ _ (by decide), hC.1.2.2.1, hI.1.2.2.2.2.2.1]; rfl
  obtain ⟨M2, k1, k2, k3⟩ := l_S_setRow n hI hF5 hR4 v hv (cFN σ) 0 n (mfil M 51 5 0) (by omega) (by omega) (hC.fr fr (by decide)) (fun i h1 h2 => by omega) (fun g hg => by
    rw [mfil_in _ _ _ _ (by omega)]
    refine ⟨ir_0, fun i hi => ?_⟩
    rw [bI_0]
    by_cases e : cFN σ ≤ i
    · rw [decide_eq_false (show ¬ i < cFN σ by omega)]; simp
    · rw [decide_eq_false e]; rfl)
  have k1' : lp_S_setRow_24 n n v ((cFN σ : Int) - 1) (mfil M 51 5 0) = _ := k1
  refine ⟨M2, ?_, fr.trans k2, k3⟩
  unfold f_S_setRow
  rw [m12, show min (cFN σ : Int) 5 = (cFN σ : Int) by omega, w32_s (by omega) (by omega)]
  exact k1'
/-- what a set's bits say of a row's firms -/
theorem row_set (hI : Inv σ) (hF5 : cFN σ ≤ 5) {v : Nat} (hR : ROWC M σ v) {b : Nat} (hb : b < cRN σ) : ∃ set : Nat, M 51 (b + 1) = (set : Int) ∧ set < 2 ^ cFN σ ∧ ∀ x : Nat, (x : Int) < σ 0 1 → pset σ (rlN σ b) set x = grp σ (rowB σ v) (rlN σ b) x := by
  have h := hR.2 (b + 1) (by omega)
  have hp : (2 : Nat) ^ cFN σ ≤ 2 ^ 5 := Nat.pow_le_pow_right (by decide) hF5
  have h1 := bI_low h.1 (k := cFN σ) (by omega) (fun i h1 h2 => by rw [h.2 i h2, decide_eq_false (by omega)]; rfl)
  have h5 : (((2 : Nat) ^ cFN σ : Nat) : Int) = (2 : Int) ^ cFN σ := by simp
  obtain ⟨set, hset⟩ := nat_of h1.1
  refine ⟨set, hset, by omega, fun x hx => ?_⟩
  unfold pset
  by_cases hF : isF (σ 1) x = true
  · have hlt := cn_lt (p := isF (σ 1)) (show x < (σ 0 1).toNat by omega) hF
    have hlt' : cn x (isF (σ 1)) < cFN σ := hlt
    rw [grp_firm hF, hF, Bool.false_or, Bool.true_and]
    have hb2 := h.2 (cn x (isF (σ 1))) (by omega)
    rw [hset, bI_nat, decide_eq_true (show cn x (isF (σ 1)) < 32 by omega), Bool.true_and, decide_eq_true hlt', Bool.true_and] at hb2
    rw [hb2]
    unfold grp bk
    rw [ifp hF]
    rw [Bool.eq_iff_iff, decide_eq_true_eq, decide_eq_true_eq]
    have hd := dgi_lt σ v (cn x (isF (σ 1)))
    unfold rowB
    by_cases c : dgi σ v (cn x (isF (σ 1))) = 0
    · rw [ifn (fun z => z.2.2 c), c]
      constructor
      · intro q; omega
      · intro q; omega
    · rw [ifp ⟨hx, hF, c⟩]
      constructor
      · intro q; rw [q]; rfl
      · intro q
        have := pkN_inj (sh := (σ 0 1).toNat) (P := isU (σ 1) (σ 2)) (i := dgi σ v (cn x (isF (σ 1))) - 1) (j := b) (by unfold cRN at hd; omega) hb (by unfold rlN at q; omega)
        omega
  · rw [show isF (σ 1) x = false by simpa using hF, Bool.false_and, Bool.or_false]
    unfold grp bk
    rw [ifn hF, ifn hF]
theorem e_S_carriesInRow (n : Nat) (hI : Inv σ) (hF5 : cFN σ ≤ 5) (hR4 : cRN σ ≤ 4) (hK : CARS M σ d own sn) {v : Nat} (hR : ROWC M σ v) {x : Nat} (hx : (x : Int) < σ 0 1) (hF : isF (σ 1) x = true) {b : Nat} (hb : b < cRN σ) : f_S_carriesInRow n (cn x (isF (σ 1))) b M = some (if carB σ d own sn x (grp σ (rowB σ v) (rlN σ b)) = true then 1 else 0, M) := by
  have bh := hI.1.2.1
  have hp : (2 : Nat) ^ cFN σ ≤ 2 ^ 5 := Nat.pow_le_pow_right (by decide) hF5
  have hlt : cn x (isF (σ 1)) < cFN σ := cn_lt (p := isF (σ 1)) (show x < (σ 0 1).toNat by omega) hF
  obtain ⟨set, s1, s2, s3⟩ := row_set hI hF5 hR hb
  have hr := rlN_in hb
  have hc := hK x hx hF _ hr.1 hr.2.1 set s2
  rw [hr.2.2, carB_c s3] at hc
  unfold f_S_carriesInRow
  rw [ckp (by omega), ckp (by omega), w_succ (by omega), ckp (by omega), Int.toNat_natCast, Int.toNat_natCast, Int.toNat_natCast, s1, bit_I (by omega), hc]
  by_cases c : carB σ d own sn x (grp σ (rowB σ v) (rlN σ b)) = true
  · rw [ifp c, ifn (by decide)]
  · rw [ifn c, ifp (by decide)]
theorem e_S_isCarriedInRow (n : Nat) (hn : 3000 ≤ n) (hI : Inv σ) (hC : RelC M σ) (hF5 : cFN σ ≤ 5) (hR4 : cRN σ ≤ 4) (hK : CARS M σ d own sn) {v : Nat} (hR : ROWC M σ v) {x : Nat} (hx : (x : Int) < σ 0 1) (hF : isF (σ 1) x = true) : ∃ w, f_S_isCarriedInRow n (cn x (isF (σ 1))) M = some (w, M) ∧ (w ≠ 0 ↔ ∃ r : Nat, (r : Int) < σ 0 1 ∧ isU (σ 1) (σ 2) r = true ∧ carB σ d own sn x (grp σ (rowB σ v) r) = true) := by
  have m13 : M 1 3 = (cRN σ : Int) := hC.1.2.2.2.1
  have go : ∀ (k b g : Nat), b + k = cRN σ → k < g → (∀ i, i < b → ¬ carB σ d own sn x (grp σ (rowB σ v) (rlN σ i)) = true) → ∃ w, lp_S_isCarriedInRow_2 n g (cn x (isF (σ 1))) b M = some (w, M) ∧ (w ≠ 0 ↔ ∃ r : Nat, (r : Int) < σ 0 1 ∧ isU (σ 1) (σ 2) r = true ∧ carB σ d own sn x (grp σ (rowB σ v) r) = true) := by
    intro k
    induction k with
    | zero =>
      intro b g hb hg hN
      obtain ⟨g', rfl, _⟩ := f_pos hg
      show ∃ w, f_S_isCarriedInRow_2 n (lp_S_isCarriedInRow_2 n g') _ b M = _ ∧ _
      unfold f_S_isCarriedInRow_2
      rw [ifp (by rw [m13]; omega)]
      refine ⟨0, rfl, fun q => absurd rfl q, fun ⟨r, r1, r2, r3⟩ => ?_⟩
      have hlt : cn r (isU (σ 1) (σ 2)) < cRN σ := cn_lt (show r < (σ 0 1).toNat by omega) r2
      have e : rlN σ (cn r (isU (σ 1) (σ 2))) = r := pkN_eq (show r < (σ 0 1).toNat by omega) r2
      have := hN (cn r (isU (σ 1) (σ 2))) (by omega)
      rw [e] at this
      exact absurd r3 this
    | succ k ih =>
      intro b g hb hg hN
      obtain ⟨g', rfl, hg'⟩ := f_pos hg
      show ∃ w, f_S_isCarriedInRow_2 n (lp_S_isCarriedInRow_2 n g') _ b M = _ ∧ _
      unfold f_S_isCarriedInRow_2
      rw [ifn (by rw [m13]; omega), ifn (by omega), e_S_carriesInRow n hI hF5 hR4 hK hR hx hF (b := b) (by omega), bnd_mk, w_succ (by omega)]
      by_cases c : carB σ d own sn x (grp σ (rowB σ v) (rlN σ b)) = true
      · rw [ifp c, i1]
        have hr := rlN_in (σ := σ) (j := b) (by omega)
        exact ⟨1, rfl, fun _ => ⟨_, hr.1, hr.2.1, c⟩, fun _ => by decide⟩
      · rw [ifn c, i0]
        exact ih (b + 1) g' (by omega) hg' fun i hi => by
          by_cases e : i = b
          · rw [e]; exact c
          · exact hN i (by omega)
  exact go (cRN σ) 0 n (by omega) (by omega) (fun i hi => absurd hi (Nat.not_lt_zero i))
theorem e_S_rowFits (n : Nat) (hn : 3000 ≤ n) (hI : Inv σ) (hC : RelC M σ) (hF5 : cFN σ ≤ 5) (hR4 : cRN σ ≤ 4) (hK : CARS M σ d own sn) {v : Nat} (hR : ROWC M σ v) : ∃ w, f_S_rowFits n M = some (w, M) ∧ (w ≠ 0 ↔ fitP σ d own sn (rowB σ v)) := by
  have bh := hI.1.2.1
  have m12 : M 1 2 = (cFN σ : Int) := by rw [hC.1.2.2.1, hI.1.2.2.2.2.2.1]; rfl
  have go : ∀ (k h g : Nat), h + k = (σ 0 1).toNat → k < g → (∀ x : Nat, x < h → isF (σ 1) x = true → fitsX σ d own sn (rowB σ v) x) → ∃ w, lp_S_rowFits_2 n g (cn h (isF (σ 1))) M = some (w, M) ∧ (w ≠ 0 ↔ fitP σ d own sn (rowB σ v)) := by
    intro k
    induction k with
    | zero =>
      intro h g hh hg hP
      obtain ⟨g', rfl, _⟩ := f_pos hg
      have e : h = (σ 0 1).toNat := by omega
      subst e
      show ∃ w, f_S_rowFits_2 n (lp_S_rowFits_2 n g') _ M = _ ∧ _
      unfold f_S_rowFits_2
      rw [ifp (by rw [m12]; exact Int.le_refl _)]
      exact ⟨1, rfl, fun _ x hx hF => hP x (by omega) hF, fun _ => by decide⟩
    | succ k ih =>
      intro h g hh hg hP
      by_cases hF : isF (σ 1) h = true
      · obtain ⟨g', rfl, hg'⟩ := f_pos hg
        show ∃ w, f_S_rowFits_2 n (lp_S_rowFits_2 n g') _ M = _ ∧ _
        have hlt : cn h (isF (σ 1)) < cFN σ := cn_lt (p := isF (σ 1)) (show h < (σ 0 1).toNat by omega) hF
        have hd := dgi_lt σ v (cn h (isF (σ 1)))
        have next : fitsX σ d own sn (rowB σ v) h → ∃ w, lp_S_rowFits_2 n g' (cn (h + 1) (isF (σ 1))) M = some (w, M) ∧ (w ≠ 0 ↔ fitP σ d own sn (rowB σ v)) := fun q => ih (h + 1) g' (by omega) hg' fun x hx hF2 => by
          by_cases e : x = h
          · rw [e]; exact q
          · exact hP x (by omega) hF2
        have stop : ¬ fitsX σ d own sn (rowB σ v) h → ∃ w, some ((0 : Int), M) = some (w, M) ∧ (w ≠ 0 ↔ fitP σ d own sn (rowB σ v)) := fun q => ⟨0, rfl, fun z => absurd rfl z, fun z => absurd (z h (by omega) hF) q⟩
        unfold f_S_rowFits_2 f_S_rowFits_56
        rw [ifn (by rw [m12]; omega), ifn (by omega), ckp (by omega), Int.toNat_natCast, hR.1 _ hlt, w_succ (by omega), ← cn_t hF]
        by_cases c : dgi σ v (cn h (isF (σ 1))) = 0
        · have er : rowB σ v h = -5 := by unfold rowB; rw [ifn (fun z => z.2.2 c)]
          obtain ⟨w, w1, w2⟩ := e_S_isCarriedInRow n hn hI hC hF5 hR4 hK hR (x := h) (by omega) hF
          rw [ifp (by omega), w1, bnd_mk]
          by_cases c2 : w = 0
          · rw [ifp c2]
            refine next (Or.inr ⟨by omega, fun r r1 r2 => ?_⟩)
            cases e : carB σ d own sn h (grp σ (rowB σ v) r) with
            | false => rfl
            | true => exact absurd c2 (w2.mpr ⟨r, r1, r2, e⟩)
          · rw [ifn c2]
            refine stop fun q => ?_
            rcases q with q | q
            · omega
            · obtain ⟨r, r1, r2, r3⟩ := w2.mp c2
              rw [q.2 r r1 r2] at r3; cases r3
        · have er : rowB σ v h = (rlN σ (dgi σ v (cn h (isF (σ 1))) - 1) : Int) := by unfold rowB; rw [ifp ⟨by omega, hF, c⟩]
          rw [ifn (by omega), ckp (by omega), w32_s (by omega) (by omega), show ((dgi σ v (cn h (isF (σ 1))) : Nat) : Int) - 1 = ((dgi σ v (cn h (isF (σ 1))) - 1 : Nat) : Int) by omega, e_S_carriesInRow n hI hF5 hR4 hK hR (x := h) (by omega) hF (by omega), bnd_mk]
          by_cases c2 : carB σ d own sn h (grp σ (rowB σ v) (rlN σ (dgi σ v (cn h (isF (σ 1))) - 1))) = true
          · rw [ifp c2, n1]
            exact next (Or.inl ⟨by omega, by rw [er]; exact c2⟩)
          · rw [ifn c2, n0]
            refine stop fun q => ?_
            rcases q with q | q
            · rw [er] at q; exact c2 q.2
            · omega
      · have e : cn (h + 1) (isF (σ 1)) = cn h (isF (σ 1)) := cn_f (by simpa using hF)
        have := ih (h + 1) g (by omega) (by omega) fun x hx hF2 => by
          by_cases e2 : x = h
          · rw [e2] at hF2; exact absurd hF2 hF
          · exact hP x (by omega) hF2
        rw [e] at this
        exact this
  exact go (σ 0 1).toNat 0 n (by omega) (by omega) (fun x hx => absurd hx (Nat.not_lt_zero x))
theorem e_S_rulerInRow (n : Nat) (hn : 3000 ≤ n) (hI : Inv σ) (hC : RelC M σ) (hF5 : cFN σ ≤ 5) (hR4 : cRN σ ≤ 4) {v : Nat} (hR : ROWC M σ v) {x : Nat} (hx : (x : Int) < σ 0 1) (hF : isF (σ 1) x = true) : f_S_rulerInRow n x M = some (rowB σ v x, M) := by
  have bh := hI.1.2.1
  have m12 : M 1 2 = (cFN σ : Int) := by rw [hC.1.2.2.1, hI.1.2.2.2.2.2.1]; rfl
  have go : ∀ (k h g : Nat), h + k = (σ 0 1).toNat → k < g → (x < h → rowB σ v x = -5) → lp_S_rulerInRow_2 n g x (cn h (isF (σ 1))) M = some (rowB σ v x, M) := by
    intro k
    induction k with
    | zero =>
      intro h g hh hg hP
      obtain ⟨g', rfl, _⟩ := f_pos hg
      have e : h = (σ 0 1).toNat := by omega
      subst e
      show f_S_rulerInRow_2 n (lp_S_rulerInRow_2 n g') x _ M = _
      unfold f_S_rulerInRow_2
      rw [ifp (by rw [m12]; exact Int.le_refl _), hP (by omega)]
    | succ k ih =>
      intro h g hh hg hP
      by_cases hFh : isF (σ 1) h = true
      · obtain ⟨g', rfl, hg'⟩ := f_pos hg
        show f_S_rulerInRow_2 n (lp_S_rulerInRow_2 n g') x _ M = _
        have hlt : cn h (isF (σ 1)) < cFN σ := cn_lt (p := isF (σ 1)) (show h < (σ 0 1).toNat by omega) hFh
        have hd := dgi_lt σ v (cn h (isF (σ 1)))
        unfold f_S_rulerInRow_2 f_S_rulerInRow_57
        simp only [ifn (show ¬ M 1 2 ≤ ((cn h (isF (σ 1)) : Nat) : Int) by rw [m12]; omega), ifn (show ¬ (5 : Int) ≤ ((cn h (isF (σ 1)) : Nat) : Int) by omega), ckp (show (0 : Int) ≤ ((cn h (isF (σ 1)) : Nat) : Int) ∧ ((cn h (isF (σ 1)) : Nat) : Int) < 7 by omega), ckp (show (0 : Int) ≤ ((cn h (isF (σ 1)) : Nat) : Int) ∧ ((cn h (isF (σ 1)) : Nat) : Int) < 5 by omega), Int.toNat_natCast, hC.1.2.2.2.2.2.2.2.1 h (show (h : Int) < σ 0 1 by omega) hFh, hR.1 _ hlt, w_succ (show cn h (isF (σ 1)) < 2000000000 by omega), ← cn_t hFh]
        by_cases e : h = x
        · subst e
          rw [ifn (fun z => z rfl)]
          by_cases c : dgi σ v (cn h (isF (σ 1))) = 0
          · have er : rowB σ v h = -5 := by unfold rowB; rw [ifn (fun z => z.2.2 c)]
            rw [ifp (by omega)]
            exact ih (h + 1) g' (by omega) hg' (fun _ => er)
          · have er : rowB σ v h = (rlN σ (dgi σ v (cn h (isF (σ 1))) - 1) : Int) := by unfold rowB; rw [ifp ⟨by omega, hF, c⟩]
            have hr := rlN_in (σ := σ) (j := dgi σ v (cn h (isF (σ 1))) - 1) (by omega)
            have h20 := hC.1.2.2.2.2.2.2.2.2.1 _ hr.1 hr.2.1
            rw [hr.2.2] at h20
            rw [ifn (by omega), w32_s (by omega) (by omega), show ((dgi σ v (cn h (isF (σ 1))) : Nat) : Int) - 1 = ((dgi σ v (cn h (isF (σ 1))) - 1 : Nat) : Int) by omega, ckp (by omega), Int.toNat_natCast, h20, er]
        · rw [ifp (by omega)]
          exact ih (h + 1) g' (by omega) hg' (fun q => hP (by omega))
      · have e : cn (h + 1) (isF (σ 1)) = cn h (isF (σ 1)) := cn_f (by simpa using hFh)
        have := ih (h + 1) g (by omega) (by omega) fun q => hP (by
          have : x ≠ h := fun z => by rw [z] at hF; exact hFh hF
          omega)
        rw [e] at this
        exact this
  exact go (σ 0 1).toNat 0 n (by omega) (by omega) (fun q => absurd q (Nat.not_lt_zero x))
end
