/-! all(..): rows of rulers; the reference. -/
section
variable {σ : Mm} {M N : Mm} {d : Int} {own sn : Nat → Int}
def cFN (σ : Mm) : Nat := cn (σ 0 1).toNat (isF (σ 1))
def cRN (σ : Mm) : Nat := cn (σ 0 1).toNat (isU (σ 1) (σ 2))
def rlN (σ : Mm) (j : Nat) : Nat := pkN (σ 0 1).toNat (isU (σ 1) (σ 2)) j
def wfN (σ : Mm) (j : Nat) : Nat := pkN (σ 0 1).toNat (isF (σ 1)) j
def dvn (B v : Nat) : Nat → Nat
  | 0 => v
  | j + 1 => dvn B v j / B
theorem dvn_le (B v : Nat) : ∀ j, dvn B v j ≤ v
  | 0 => Nat.le_refl v
  | j + 1 => Nat.le_trans (Nat.div_le_self _ _) (dvn_le B v j)
/-- the digit of the k-th firm in row v -/
def dgi (σ : Mm) (v k : Nat) : Nat := dvn (cRN σ + 1) v (cFN σ - 1 - k) % (cRN σ + 1)
def rowB (σ : Mm) (v : Nat) : Nat → Int := fun x => if (x : Int) < σ 0 1 ∧ isF (σ 1) x = true ∧ dgi σ v (cn x (isF (σ 1))) ≠ 0 then (rlN σ (dgi σ v (cn x (isF (σ 1))) - 1) : Int) else -5
theorem dgi_lt (σ : Mm) (v k : Nat) : dgi σ v k < cRN σ + 1 := Nat.mod_lt _ (by omega)
theorem rlN_in {j : Nat} (hj : j < cRN σ) : (rlN σ j : Int) < σ 0 1 ∧ isU (σ 1) (σ 2) (rlN σ j) = true ∧ cn (rlN σ j) (isU (σ 1) (σ 2)) = j := by
  have h := pkN_in (sh := (σ 0 1).toNat) (P := isU (σ 1) (σ 2)) (k := j) hj
  exact ⟨by have := h.1; unfold rlN; omega, h.2⟩
theorem wfN_in {j : Nat} (hj : j < cFN σ) : (wfN σ j : Int) < σ 0 1 ∧ isF (σ 1) (wfN σ j) = true ∧ cn (wfN σ j) (isF (σ 1)) = j := by
  have h := pkN_in (sh := (σ 0 1).toNat) (P := isF (σ 1)) (k := j) hj
  exact ⟨by have := h.1; unfold wfN; omega, h.2⟩
theorem rowB_in (σ : Mm) (v x : Nat) : rowB σ v x = -5 ∨ (0 ≤ rowB σ v x ∧ rowB σ v x < σ 0 1 ∧ isU (σ 1) (σ 2) (rowB σ v x).toNat = true) := by
  unfold rowB
  by_cases c : (x : Int) < σ 0 1 ∧ isF (σ 1) x = true ∧ dgi σ v (cn x (isF (σ 1))) ≠ 0
  · rw [ifp c]
    have h1 := dgi_lt σ v (cn x (isF (σ 1)))
    have h2 := rlN_in (σ := σ) (j := dgi σ v (cn x (isF (σ 1))) - 1) (by have := c.2.2; omega)
    exact Or.inr ⟨by omega, h2.1, by rw [Int.toNat_natCast]; exact h2.2.1⟩
  · rw [ifn c]; exact Or.inl rfl
/-- the rule fits firm x -/
def fitsX (σ : Mm) (d : Int) (own sn rb : Nat → Int) (x : Nat) : Prop := (0 ≤ rb x ∧ carB σ d own sn x (grp σ rb (rb x)) = true) ∨ (rb x < 0 ∧ ∀ r : Nat, (r : Int) < σ 0 1 → isU (σ 1) (σ 2) r = true → carB σ d own sn x (grp σ rb r) = false)
def fitP (σ : Mm) (d : Int) (own sn rb : Nat → Int) : Prop := ∀ x : Nat, (x : Int) < σ 0 1 → isF (σ 1) x = true → fitsX σ d own sn rb x
/-- the reference's lists -/
def LSN (N σ : Mm) : Prop := N 0 51 = (cRN σ : Int) ∧ (∀ h : Nat, (h : Int) < σ 0 1 → isU (σ 1) (σ 2) h = true → N 31 (cn h (isU (σ 1) (σ 2))) = (h : Int)) ∧ (∀ h : Nat, (h : Int) < σ 0 1 → isF (σ 1) h = true → N 32 (cn h (isF (σ 1))) = (h : Int))
theorem LSN.fr {N N' : Mm} {L : List Nat} (h : LSN N σ) (f : Fr cdR L N N') (h1 : L.elem 1051 = false) (h2 : L.elem 31 = false) (h3 : L.elem 32 = false) : LSN N' σ :=
  ⟨(f 0 51 h1).trans h.1, fun x hx hU => (f 31 _ h2).trans (h.2.1 x hx hU), fun x hx hF => (f 32 _ h3).trans (h.2.2 x hx hF)⟩
theorem l_m_fits48 (n : Nat) (hn : 3000 ≤ n) (hI : Inv σ) (hA : AgR N σ) (hS : LSN N σ) {rb : Nat → Int} (hR : RBy N σ rb) {x : Nat} (hx : (x : Int) < σ 0 1) (hT : RTx N σ d own sn x) (k2 : Int → Mm → Rr) (a : Nat) (ha : a < 16) (hneg : rb x < 0) : ∀ (k r g : Nat), r + k = (σ 0 1).toNat → k < g → (lp_m_fits_48 n k2 g a x (cn r (isU (σ 1) (σ 2))) N = k2 ((a + 1 : Nat) : Int) N ∧ ∀ y : Nat, r ≤ y → (y : Int) < σ 0 1 → isU (σ 1) (σ 2) y = true → carB σ d own sn x (grp σ rb y) = false) ∨ (lp_m_fits_48 n k2 g a x (cn r (isU (σ 1) (σ 2))) N = some (0, N) ∧ ∃ y : Nat, (y : Int) < σ 0 1 ∧ isU (σ 1) (σ 2) y = true ∧ carB σ d own sn x (grp σ rb y) = true) := by
  have bh := hI.1.2.1
  intro k
  induction k with
  | zero =>
    intro r g hr hg
    obtain ⟨g', rfl, _⟩ := f_pos hg
    have e : r = (σ 0 1).toNat := by omega
    subst e
    refine Or.inl ⟨?_, fun y h1 h2 => by omega⟩
    show f_m_fits_48 n k2 (lp_m_fits_48 n k2 g') a x _ N = _
    unfold f_m_fits_48 f_m_fits_91
    rw [ifp (by rw [hS.1]; exact Int.le_refl _), w_succ (by omega)]
  | succ k ih =>
    intro r g hr hg
    by_cases hU : isU (σ 1) (σ 2) r = true
    · obtain ⟨g', rfl, hg'⟩ := f_pos hg
      have hlt := cn_lt (p := isU (σ 1) (σ 2)) (show r < (σ 0 1).toNat by omega) hU
      have hle := cn_le (isU (σ 1) (σ 2)) (σ 0 1).toNat
      have h29 := hR x (by omega)
      rw [ifp hneg] at h29
      obtain ⟨v, v1, v2, v3⟩ := e_m_groupOf n hn hI hA hR (r := r) (by omega) hU
      have ec : carB σ d own sn x (fun h => bI v h) = carB σ d own sn x (grp σ rb r) := carB_c v3
      have e0 : lp_m_fits_48 n k2 (g' + 1) a x (cn r (isU (σ 1) (σ 2))) N = if carB σ d own sn x (grp σ rb r) = true then some (0, N) else lp_m_fits_48 n k2 g' a x (cn (r + 1) (isU (σ 1) (σ 2))) N := by
        show f_m_fits_48 n k2 (lp_m_fits_48 n k2 g') a x _ N = _
        unfold f_m_fits_48
        rw [ifn (by rw [hS.1]; unfold cRN; omega), ckp (by omega), Int.toNat_natCast, h29, ifn (by decide), ckp (by omega), Int.toNat_natCast, hS.2.1 r (by omega) hU, v1, bnd_mk, e_m_carries n hn hI hA hx hT v, bnd_mk, ec, w_succ (by omega), ← cn_t hU]
        by_cases c : carB σ d own sn x (grp σ rb r) = true
        · rw [ifp c, ifp c, i1]
        · rw [ifn c, ifn c, i0]
      rw [e0]
      by_cases c : carB σ d own sn x (grp σ rb r) = true
      · rw [ifp c]; exact Or.inr ⟨rfl, r, by omega, hU, c⟩
      · rw [ifn c]
        rcases ih (r + 1) g' (by omega) hg' with q | q
        · refine Or.inl ⟨q.1, fun y h1 h2 h3 => ?_⟩
          by_cases e : y = r
          · rw [e]; simpa using c
          · exact q.2 y (by omega) h2 h3
        · exact Or.inr q
    · have e : cn (r + 1) (isU (σ 1) (σ 2)) = cn r (isU (σ 1) (σ 2)) := cn_f (by simpa using hU)
      rcases ih (r + 1) g (by omega) (by omega) with q | q
      · rw [e] at q
        refine Or.inl ⟨q.1, fun y h1 h2 h3 => ?_⟩
        by_cases e2 : y = r
        · rw [e2] at h3; exact absurd h3 hU
        · exact q.2 y (by omega) h2 h3
      · rw [e] at q; exact Or.inr q
theorem e_m_fits (n : Nat) (hn : 3000 ≤ n) (hI : Inv σ) (hA : AgR N σ) (hS : LSN N σ) {rb : Nat → Int} (hR : RBy N σ rb) (hrb : ∀ x : Nat, rb x = -5 ∨ (0 ≤ rb x ∧ rb x < σ 0 1 ∧ isU (σ 1) (σ 2) (rb x).toNat = true)) (hT : RT N σ d own sn) : ∃ v, f_m_fits n N = some (v, N) ∧ (v ≠ 0 ↔ fitP σ d own sn rb) := by
  have bh := hI.1.2.1
  have h7 : (cn (σ 0 1).toNat (isF (σ 1)) : Int) ≤ 7 := by have := hI.1.2.2.2.2.2; omega
  have go : ∀ (k h g : Nat), h + k = (σ 0 1).toNat → k < g → (∀ x : Nat, x < h → isF (σ 1) x = true → fitsX σ d own sn rb x) → ∃ v, lp_m_fits_2 n g (cn h (isF (σ 1))) N = some (v, N) ∧ (v ≠ 0 ↔ fitP σ d own sn rb) := by
    intro k
    induction k with
    | zero =>
      intro h g hh hg hP
      obtain ⟨g', rfl, _⟩ := f_pos hg
      have e : h = (σ 0 1).toNat := by omega
      subst e
      show ∃ v, f_m_fits_2 n (lp_m_fits_2 n g') _ N = _ ∧ _
      unfold f_m_fits_2
      rw [ifp (by rw [hA 0 2 rfl, hI.1.2.2.2.2.2.1]; omega)]
      exact ⟨1, rfl, fun _ x hx hF => hP x (by omega) hF, fun _ => by decide⟩
    | succ k ih =>
      intro h g hh hg hP
      by_cases hF : isF (σ 1) h = true
      · obtain ⟨g', rfl, hg'⟩ := f_pos hg
        show ∃ v, f_m_fits_2 n (lp_m_fits_2 n g') _ N = _ ∧ _
        have hlt := cn_lt (p := isF (σ 1)) (show h < (σ 0 1).toNat by omega) hF
        have h29 := hR h (by omega)
        have hTx := hT h (by omega) hF
        have next : fitsX σ d own sn rb h → ∃ v, lp_m_fits_2 n g' (cn (h + 1) (isF (σ 1))) N = some (v, N) ∧ (v ≠ 0 ↔ fitP σ d own sn rb) := fun q => ih (h + 1) g' (by omega) hg' fun x hx hF2 => by
          by_cases e : x = h
          · rw [e]; exact q
          · exact hP x (by omega) hF2
        have stop : ¬ fitsX σ d own sn rb h → ∃ v, some ((0 : Int), N) = some (v, N) ∧ (v ≠ 0 ↔ fitP σ d own sn rb) := fun q => ⟨0, rfl, fun z => absurd rfl z, fun z => absurd (z h (by omega) hF) q⟩
        unfold f_m_fits_2 f_m_fits_46
        rw [ifn (by rw [hA 0 2 rfl, hI.1.2.2.2.2.2.1]; omega), ckp (by omega), Int.toNat_natCast, hS.2.2 h (by omega) hF, ckp (by omega), Int.toNat_natCast, h29]
        rcases hrb h with q | q
        · rw [ifp (show rb h < 0 by omega), ifp (by decide)]
          rcases l_m_fits48 n hn hI hA hS hR (x := h) (by omega) hTx (lp_m_fits_2 n g') (cn h (isF (σ 1))) (by omega) (by omega) (σ 0 1).toNat 0 n (by omega) (by omega) with z | z
          · have z1 : lp_m_fits_48 n (lp_m_fits_2 n g') n (cn h (isF (σ 1))) h 0 N = _ := z.1
            rw [z1, ← cn_t hF]
            exact next (Or.inr ⟨by omega, fun y hy hU => z.2 y (Nat.zero_le _) hy hU⟩)
          · have z1 : lp_m_fits_48 n (lp_m_fits_2 n g') n (cn h (isF (σ 1))) h 0 N = _ := z.1
            rw [z1]
            refine stop fun w => ?_
            rcases w with w | w
            · omega
            · obtain ⟨y, y1, y2, y3⟩ := z.2
              rw [w.2 y y1 y2] at y3; cases y3
        · obtain ⟨r, hr⟩ := nat_of q.1
          rw [ifn (show ¬ rb h < 0 by omega), ifn (by omega), ckp (by omega), hr]
          obtain ⟨v, v1, v2, v3⟩ := e_m_groupOf n hn hI hA hR (r := r) (by omega) (by have := q.2.2; rw [hr, Int.toNat_natCast] at this; exact this)
          have ec : carB σ d own sn h (fun i => bI v i) = carB σ d own sn h (grp σ rb r) := carB_c v3
          rw [v1, bnd_mk, e_m_carries n hn hI hA (show (h : Int) < σ 0 1 by omega) hTx v, bnd_mk, ec]
          by_cases c : carB σ d own sn h (grp σ rb r) = true
          · rw [ifp c, n1]
            have e48 : lp_m_fits_48 n (lp_m_fits_2 n g') n (cn h (isF (σ 1))) h 0 N = lp_m_fits_2 n g' (cn (h + 1) (isF (σ 1))) N := by
              obtain ⟨n', rfl, _⟩ := f_pos (show 0 < n by omega)
              show f_m_fits_48 _ _ (lp_m_fits_48 _ _ n') (cn h (isF (σ 1))) h 0 N = _
              unfold f_m_fits_48 f_m_fits_91
              rw [w_succ (by omega), ← cn_t hF]
              by_cases c2 : N 0 51 ≤ 0
              · rw [ifp c2]
              · rw [ifn c2, ckp (by omega), Int.toNat_natCast, h29, ifn (show ¬ rb h < 0 by omega), ifp q.1]
            rw [e48]
            exact next (Or.inl ⟨q.1, by rw [hr]; exact c⟩)
          · rw [ifn c, n0]
            refine stop fun w => ?_
            rcases w with w | w
            · rw [hr] at w; exact c w.2
            · omega
      · have e : cn (h + 1) (isF (σ 1)) = cn h (isF (σ 1)) := cn_f (by simpa using hF)
        have := ih (h + 1) g (by omega) (by omega) fun x hx hF2 => by
          by_cases e2 : x = h
          · rw [e2] at hF2; exact absurd hF2 hF
          · exact hP x (by omega) hF2
        rw [e] at this
        exact this
  exact go (σ 0 1).toNat 0 n (by omega) (by omega) (fun x hx => absurd hx (Nat.not_lt_zero x))
/-- the reference sets a row -/
theorem l_m_all112 (n : Nat) (hI : Inv σ) (k93 : Int → Int → Int → Int → Int → Mm → Rr) (x2 x3 x4 x5 : Int) (v : Nat) (hv : v < 1000000) : ∀ (k j g : Nat) (N : Mm), k + j = cFN σ → k < g → AgR N σ → LSN N σ → (∀ x : Nat, x < 16 → ¬ ((x : Int) < σ 0 1 ∧ isF (σ 1) x = true) → N 29 x = -1) → (∀ x : Nat, (x : Int) < σ 0 1 → isF (σ 1) x = true → k ≤ cn x (isF (σ 1)) → N 29 x = (if rowB σ v x < 0 then -1 else rowB σ v x)) → ∃ N' g', lp_m_all_112 n k93 g x2 x3 x4 x5 v (dvn (cRN σ + 1) v j) ((k : Int) - 1) N = f_m_all_112 n k93 g' x2 x3 x4 x5 v (dvn (cRN σ + 1) v (cFN σ)) (-1) N' ∧ Fr cdR [29] N N' ∧ RBy N' σ (rowB σ v) := by
  have bh := hI.1.2.1
  have h7 : (cFN σ : Int) ≤ 7 := by have := hI.1.2.2.2.2.2; unfold cFN; omega
  have hR16 : cRN σ ≤ 16 := by have := cn_le (isU (σ 1) (σ 2)) (σ 0 1).toNat; unfold cRN; omega
  intro k
  induction k with
  | zero =>
    intro j g N hk hg hA hS h0 hP
    obtain ⟨g', rfl, _⟩ := f_pos hg
    have e : j = cFN σ := by omega
    subst e
    refine ⟨N, _, rfl, Fr.rf, fun x hx => ?_⟩
    by_cases c : (x : Int) < σ 0 1 ∧ isF (σ 1) x = true
    · exact hP x c.1 c.2 (Nat.zero_le _)
    · rw [h0 x hx c]
      have : rowB σ v x = -5 := by unfold rowB; rw [ifn (fun z => c ⟨z.1, z.2.1⟩)]
      rw [this]; rfl
  | succ k ih =>
    intro j g N hk hg hA hS h0 hP
    obtain ⟨g', rfl, hg'⟩ := f_pos hg
    have hf := wfN_in (σ := σ) (j := k) (by omega)
    have hdl := dvn_le (cRN σ + 1) v j
    have hdg : dgi σ v k = dvn (cRN σ + 1) v j % (cRN σ + 1) := by unfold dgi; rw [show cFN σ - 1 - k = j by omega]
    have hdlt := dgi_lt σ v k
    have step : lp_m_all_112 n k93 (g' + 1) x2 x3 x4 x5 v (dvn (cRN σ + 1) v j) (((k + 1 : Nat) : Int) - 1) N = lp_m_all_112 n k93 g' x2 x3 x4 x5 v (dvn (cRN σ + 1) v (j + 1)) ((k : Int) - 1) (mset N 29 (wfN σ k) (if rowB σ v (wfN σ k) < 0 then -1 else rowB σ v (wfN σ k))) := by
      show f_m_all_112 n k93 (lp_m_all_112 n k93 g') x2 x3 x4 x5 v _ _ N = _
      have e32 : N 32 k = (wfN σ k : Int) := by have := hS.2.2 _ hf.1 hf.2.1; rw [hf.2.2] at this; exact this
      unfold f_m_all_112
      rw [ifn (by omega), hS.1, show ((k + 1 : Nat) : Int) - 1 = (k : Int) by omega, w_succ (by omega), ckp (by omega), ckp (by omega), Int.toNat_natCast, e32, irm_nn (by omega) (by omega), show ((dvn (cRN σ + 1) v j : Nat) : Int) % ((cRN σ + 1 : Nat) : Int) = ((dgi σ v k : Nat) : Int) by rw [hdg]; rfl]
      have tail : ∀ w : Int, f_m_all_157 n k93 (lp_m_all_112 n k93 g') x2 x3 x4 x5 v (dvn (cRN σ + 1) v j) (k : Int) (wfN σ k : Int) w N = lp_m_all_112 n k93 g' x2 x3 x4 x5 v (dvn (cRN σ + 1) v (j + 1)) ((k : Int) - 1) (mset N 29 (wfN σ k) w) := by
        intro w
        unfold f_m_all_157
        rw [ckp (by omega), Int.toNat_natCast, mg_k _ _ _ (show (0 : Nat) ≠ 29 by decide), hS.1, w_succ (by omega), ckp (by omega), idv_nn (by omega) (by omega), w32_s (by omega) (by omega)]
        rfl
      by_cases c : dgi σ v k = 0
      · have er : rowB σ v (wfN σ k) = -5 := by unfold rowB; rw [hf.2.2, ifn (fun z => z.2.2 c)]
        rw [c, ifn (show ¬ ((0 : Nat) : Int) ≠ 0 by decide), tail, er, ifp (by decide)]
      · have hr := rlN_in (σ := σ) (j := dgi σ v k - 1) (by omega)
        have er : rowB σ v (wfN σ k) = (rlN σ (dgi σ v k - 1) : Int) := by unfold rowB; rw [hf.2.2, ifp ⟨hf.1, hf.2.1, c⟩]
        have e31 := hS.2.1 _ hr.1 hr.2.1
        rw [hr.2.2] at e31
        rw [ifp (by omega), w32_s (by omega) (by omega), ckp (by omega), show ((dgi σ v k : Nat) : Int) - 1 = ((dgi σ v k - 1 : Nat) : Int) by omega, Int.toNat_natCast, e31, tail, er, ifn (by omega)]
    rw [step]
    have fr : Fr cdR [29] N (mset N 29 (wfN σ k) (if rowB σ v (wfN σ k) < 0 then -1 else rowB σ v (wfN σ k))) := Fr.rf.set rfl
    obtain ⟨N', g2, z1, z2, z3⟩ := ih (j + 1) g' (mset N 29 (wfN σ k) (if rowB σ v (wfN σ k) < 0 then -1 else rowB σ v (wfN σ k))) (by omega) hg' (hA.fr fr (by decide)) (hS.fr fr rfl rfl rfl) (fun x hx hn => by
      have : x ≠ wfN σ k := fun e => hn (by rw [e]; exact ⟨hf.1, hf.2.1⟩)
      rw [mg_j _ _ _ this]; exact h0 x hx hn) (fun x hx hF hle => by
      by_cases e : x = wfN σ k
      · rw [e, mg_s]
      · rw [mg_j _ _ _ e]
        refine hP x hx hF ?_
        have : cn x (isF (σ 1)) ≠ k := fun q => e (cn_inj hF hf.2.1 (by rw [hf.2.2, q]))
        omega)
    exact ⟨N', g2, z1, fr.trans z2, z3⟩
end
