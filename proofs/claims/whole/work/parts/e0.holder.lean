/-! holder(..): the call. -/
def bornM (M : Mm) (h : Nat) (x f : Int) : Mm := mset (mset (mset M 16 0 (w32 ((h : Int) + 1))) 900 h x) 901 h f
def f_R_enter_115 (n : Nat) (h : Int) (M : Mm) : Rr := bnd (f_R_isRuler n h M) (fun r M1 => if r = 0 then some (h, M1) else ck (0 ≤ M1 1 3 ∧ M1 1 3 < 16) (some (h, mset (mset M1 20 (M1 1 3).toNat h) 1 3 (w32 (mset M1 20 (M1 1 3).toNat h 1 3 + 1)))))
def f_R_enter_89 (n : Nat) (x1 h : Int) (M : Mm) : Rr := if x1 ≠ 1 then f_R_enter_115 n h M else ck (0 ≤ M 1 2 ∧ M 1 2 < 7) (f_R_enter_115 n h (mset (mset M 19 (M 1 2).toNat h) 1 2 (w32 (mset M 19 (M 1 2).toNat h 1 2 + 1))))
def f_R_enter_78 (n : Nat) (x1 h v : Int) (M : Mm) : Rr := ck (0 ≤ h ∧ h < 16) (f_R_enter_89 n x1 h (mset (mset M 18 h.toNat v) 1 1 (w32 (mset M 18 h.toNat v 1 1 + 1))))
def f_R_enter_47 (n : Nat) (x1 x2 h : Int) (M : Mm) : Rr := ck (0 ≤ h ∧ h < 16) (if x1 ≠ 3 then f_R_enter_78 n x1 h h (mset M 17 h.toNat x1) else bnd (f_R_headOf n x2 h (mset M 17 h.toNat x1)) (fun r M1 => f_R_enter_78 n x1 h r M1))
def f_R_enter_26 (n : Nat) (x1 x2 : Int) (M : Mm) : Rr := ck ((0 ≤ M 1 1 ∧ M 1 1 < 16) ∧ M 16 0 = M 1 1 ∧ (0 ≤ x1 ∧ x1 ≤ 5) ∧ (x1 = 3 ∨ x2 = 0)) (f_R_enter_47 n x1 x2 (M 1 1) (bornM M (M 1 1).toNat x1 x2))
def f_R_enter (n : Nat) (x1 x2 : Int) (M : Mm) : Rr := if 16 ≤ M 1 1 then some (-4, M) else if x1 ≠ 1 then f_R_enter_26 n x1 x2 M else if M 1 2 < 7 then f_R_enter_26 n x1 x2 M else some (-4, M)
def f_W_holder_47 (n : Nat) (x1 v : Int) (M : Mm) : Rr := bnd (f_R_enter n x1 v M) (fun r M1 => some (r, M1))
def f_W_holder_33 (n : Nat) (x1 x2 : Int) (M : Mm) : Rr := if x1 ≠ 3 then f_W_holder_47 n x1 0 M else f_W_holder_47 n x1 x2 M
def f_W_holder (n : Nat) (x1 x2 : Int) (M : Mm) : Rr := if x1 < 0 then some (-1, M) else if 5 < x1 then some (-1, M) else if x1 ≠ 3 then f_W_holder_33 n x1 x2 M else if x2 < 0 then some (-1, M) else if x2 < 4 then f_W_holder_33 n x1 x2 M else some (-1, M)
section
variable {σ : Mm} {M N : Mm} {n : Nat}
def upRw (r : Nat → Int) (h : Nat) (v : Int) : Nat → Int := fun j => if j = h then v else r j
theorem upRw_s (r : Nat → Int) (h : Nat) (v : Int) : upRw r h v h = v := ifp rfl
theorem upRw_j {r : Nat → Int} {h j : Nat} {v : Int} (e : j ≠ h) : upRw r h v j = r j := ifn e
theorem mg_up (M : Mm) (k h : Nat) (v : Int) : mset M k h v k = upRw (M k) h v := by
  funext j
  rw [mg, ifp rfl]
  rfl
theorem fsn_cg {p q : Nat → Bool} : ∀ {k : Nat}, (∀ i, i < k → p i = q i) → fsn k p = fsn k q
  | 0, _ => rfl
  | k + 1, h => by
    unfold fsn
    rw [fsn_cg (k := k) (fun i hi => h i (by omega)), h k (by omega)]
theorem hdN_up {kd fa : Nat → Int} {h i : Nat} (hi : i < h) (x f : Int) : hdN (upRw kd h x) (upRw fa h f) i = hdN kd fa i := by
  unfold hdN
  rw [upRw_j (by omega)]
  by_cases c : kd i = 3
  · rw [ifp c, ifp c]
    refine fsn_cg fun j hj => ?_
    unfold samK
    rw [upRw_j (by omega), upRw_j (by omega), upRw_j (by omega)]
  · rw [ifn c, ifn c]
theorem isU_up {kd fa : Nat → Int} {h i : Nat} (hi : i < h) (x f : Int) : isU (upRw kd h x) (upRw fa h f) i = isU kd fa i := by
  unfold isU isP
  rw [hdN_up hi, upRw_j (by omega)]
theorem lst_up {p p' : Nat → Bool} {r : Nat → Int} {h : Nat} (hp : ∀ i, i < h → p' i = p i) (hr : ∀ k : Nat, k < h → p k = true → r (cn k p) = k) : ∀ k : Nat, k < h + 1 → p' k = true → (if p' h = true then upRw r (cn h p) h else r) (cn k p') = (k : Int) := by
  intro k hk pk
  have e : cn k p' = cn k p := cn_congr fun i hi => hp i (by omega)
  rw [e]
  by_cases c : k = h
  · subst c
    rw [ifp pk, upRw_s]
  · have pk' : p k = true := by rw [← hp k (by omega)]; exact pk
    have h1 := hr k (by omega) pk'
    have h2 := cn_lt (p := p) (show k < h by omega) pk'
    split
    · rw [upRw_j (by omega)]; exact h1
    · exact h1
theorem cnt_up {p p' : Nat → Bool} {h : Nat} (hp : ∀ i, i < h → p' i = p i) : cn (h + 1) p' = cn h p + (if p' h = true then 1 else 0) := by
  have e : cn h p' = cn h p := cn_congr hp
  by_cases c : p' h = true
  · rw [ifp c, cn_t c, e]
  · rw [ifn c, cn_f (by simpa using c), e]; rfl
theorem e_R_headOf (hn : 3000 ≤ n) {h : Nat} (hh : h ≤ 15) (fam : Int) (h16 : (h : Int) ≤ M 16 0) (h9 : ∀ i, i < h → 0 ≤ M 900 i ∧ M 900 i < 6) : f_R_headOf n fam h M = some (((fsn h (fun i => decide (M 17 i = 3 ∧ M 901 i = fam)) : Nat) : Int), M) := by
  generalize hp : (fun i => decide (M 17 i = 3 ∧ M 901 i = fam)) = p
  have hp' : ∀ i, p i = decide (M 17 i = 3 ∧ M 901 i = fam) := fun i => by rw [← hp]
  have hle := fsn_le p h
  have go : ∀ (k i g : Nat), i + k = fsn h p → k < g → lp_R_headOf_2 n g fam h i M = some ((fsn h p : Int), M) := by
    intro k
    induction k with
    | zero =>
      intro i g hi hg
      obtain ⟨g', rfl, _⟩ := f_pos hg
      show f_R_headOf_2 n (lp_R_headOf_2 n g') fam h i M = _
      have e : i = fsn h p := by omega
      unfold f_R_headOf_2
      by_cases c : h ≤ i
      · rw [ifp (by omega), ← e, show i = h by omega]
      · have hq := fsn_p (p := p) (k := h) (by omega)
        rw [← e, hp', decide_eq_true_eq] at hq
        have h9' := h9 i (by omega)
        rw [ifn (by omega), ckp (by omega), Int.toNat_natCast, ifn (fun z => z hq.1), ifp (by omega), ckp h9', ifn (fun z => z hq.2), e]
    | succ k ih =>
      intro i g hi hg
      obtain ⟨g', rfl, hg'⟩ := f_pos hg
      show f_R_headOf_2 n (lp_R_headOf_2 n g') fam h i M = _
      have hl := fsn_least (p := p) (k := h) (i := i) (by omega) (by omega)
      have h9' := h9 i (by omega)
      have nx := ih (i + 1) g' (by omega) hg'
      unfold f_R_headOf_2 f_R_headOf_41
      rw [ifn (by omega), ckp (by omega), Int.toNat_natCast, w_succ (by omega)]
      by_cases c : M 17 i = 3
      · rw [ifn (fun z => z c), ifp (by omega), ckp h9', ifp (show M 901 i ≠ fam from fun q => by
          rw [hp', decide_eq_true ⟨c, q⟩] at hl; cases hl)]
        exact nx
      · rw [ifp c]
        exact nx
  exact go (fsn h p) 0 n (by omega) (by omega)
theorem e_R_enter115 {h : Nat} (h1 : M 1 1 = ((h + 1 : Nat) : Int)) (hh : h ≤ 15) {u : Nat} (h3 : M 1 3 = (u : Int)) (hu : u ≤ 15) : f_R_enter_115 n h M = some ((h : Int), if (M 17 h = 2 ∨ M 17 h = 3) ∧ M 18 h = (h : Int) then mset (mset M 20 u h) 1 3 ((u + 1 : Nat) : Int) else M) := by
  unfold f_R_enter_115
  rw [e_R_isRuler n M (h : Int) (by omega), bnd_mk, Int.toNat_natCast, h1]
  by_cases c : (M 17 h = 2 ∨ M 17 h = 3) ∧ M 18 h = (h : Int)
  · rw [ifp (show 0 ≤ (h : Int) ∧ (h : Int) < ((h + 1 : Nat) : Int) ∧ _ from ⟨by omega, by omega, c⟩), ifn (by decide), ifp c, h3, ckp (by omega), Int.toNat_natCast, mg_k _ _ _ (by decide), h3, w_succ (by omega)]
  · rw [ifn (show ¬ (0 ≤ (h : Int) ∧ (h : Int) < ((h + 1 : Nat) : Int) ∧ (M 17 h = 2 ∨ M 17 h = 3) ∧ M 18 h = (h : Int)) from fun q => c q.2.2), ifp rfl, ifn c]
theorem CH_up {m10 m11 m12 m13 m16 : Int} {r17 r18 r19 r20 r900 r901 : Nat → Int} {td fi : Int} {kd fa : Nat → Int} {h : Nat} (H : CH m10 m11 m12 m13 m16 r17 r18 r19 r20 r900 r901 td (h : Int) fi kd fa) (hfi : fi = (cn h (isF kd) : Int)) (x f : Int) :
    CH m10 ((h + 1 : Nat) : Int) (fi + if x = 1 then 1 else 0) (m13 + if isU (upRw kd h x) (upRw fa h f) h = true then 1 else 0) ((h + 1 : Nat) : Int) (upRw r17 h x) (upRw r18 h (hdN (upRw kd h x) (upRw fa h f) h : Int)) (if x = 1 then upRw r19 (cn h (isF kd)) h else r19) (if isU (upRw kd h x) (upRw fa h f) h = true then upRw r20 (cn h (isU kd fa)) h else r20) (upRw r900 h x) (upRw r901 h f) td ((h + 1 : Nat) : Int) (fi + if x = 1 then 1 else 0) (upRw kd h x) (upRw fa h f) := by
  obtain ⟨k1, k2, k3, k4, k5, k6, k7, k8, k9, k10⟩ := H
  have hF : ∀ i, i < h → isF (upRw kd h x) i = isF kd i := fun i hi => by unfold isF; rw [upRw_j (by omega)]
  have hFh : isF (upRw kd h x) h = decide (x = 1) := by unfold isF; rw [upRw_s]
  refine ⟨k1, rfl, rfl, ?_, rfl, by rw [k6], fun k hk => ?_, fun k hk pk => ?_, fun k hk pk => ?_, fun k hk => ?_⟩
  · rw [k4, Int.toNat_natCast, Int.toNat_natCast, cnt_up (fun i hi => isU_up (kd := kd) (fa := fa) hi x f)]
    by_cases c : isU (upRw kd h x) (upRw fa h f) h = true
    · rw [ifp c, ifp c]; omega
    · rw [ifn c, ifn c]; omega
  · by_cases c : k = h
    · rw [c, upRw_s]
    · rw [upRw_j c, hdN_up (by omega)]; exact k7 k (by omega)
  · have L := lst_up (p := isF kd) (p' := isF (upRw kd h x)) (r := r19) hF (fun k hk => k8 k (by omega)) k (by omega) pk
    by_cases c : x = 1
    · rw [ifp c]; rw [ifp (by rw [hFh]; simp [c])] at L; exact L
    · rw [ifn c]; rw [ifn (by rw [hFh]; simp [c])] at L; exact L
  · exact lst_up (p := isU kd fa) (p' := isU (upRw kd h x) (upRw fa h f)) (r := r20) (fun i hi => isU_up hi x f) (fun k hk => k9 k (by omega)) k (by omega) pk
  · by_cases c : k = h
    · rw [c]; exact ⟨by rw [upRw_s, upRw_s], by rw [upRw_s, upRw_s]⟩
    · rw [upRw_j c, upRw_j c, upRw_j c, upRw_j c]; exact k10 k (by omega)
theorem IH_up {td fi : Int} {kd fa : Nat → Int} {h : Nat} (H : IH td (h : Int) fi kd fa) (h15 : h ≤ 15) {x f : Int} (hx : 0 ≤ x ∧ x ≤ 5) (hf : 0 ≤ f ∧ f ≤ 3) (hxf : x ≠ 3 → f = 0) (h7 : x = 1 → fi < 7) : IH td ((h + 1 : Nat) : Int) (fi + if x = 1 then 1 else 0) (upRw kd h x) (upRw fa h f) := by
  obtain ⟨k1, k2, k3, k4, k5, k6, k7⟩ := H
  have hF : ∀ i, i < h → isF (upRw kd h x) i = isF kd i := fun i hi => by unfold isF; rw [upRw_j (by omega)]
  have hFh : isF (upRw kd h x) h = decide (x = 1) := by unfold isF; rw [upRw_s]
  refine ⟨k1, by omega, fun i => ?_, fun i => ?_, fun i hi => ?_, ?_, ?_⟩
  · by_cases c : i = h
    · rw [c, upRw_s]; exact hx
    · rw [upRw_j c]; exact k3 i
  · by_cases c : i = h
    · rw [c, upRw_s]; exact hf
    · rw [upRw_j c]; exact k4 i
  · by_cases c : i = h
    · rw [c, upRw_s] at hi ⊢; exact hxf hi
    · rw [upRw_j c] at hi ⊢; exact k5 i hi
  · rw [Int.toNat_natCast, cnt_up hF, hFh, k6, Int.toNat_natCast]
    by_cases c : x = 1
    · rw [ifp c, ifp (by simp [c])]; omega
    · rw [ifn c, ifn (by simp [c])]; omega
  · by_cases c : x = 1
    · rw [ifp c]; have := h7 c; omega
    · rw [ifn c]; omega
end
