/-! LEAST: what is reached by steps. -/
abbrev LSt : Type := (Nat → Int) × (Nat → Int) × Nat
/-- as whom a holder votes -/
def bk (σ : Mm) (rb : Nat → Int) (h : Nat) : Int := if isF (σ 1) h = true then rb h else (hdN (σ 1) (σ 2) h : Int)
def grp (σ : Mm) (rb : Nat → Int) (r : Int) : Nat → Bool := fun h => decide (bk σ rb h = r)
def carB (σ : Mm) (d : Int) (own sn : Nat → Int) (x : Nat) (p : Nat → Bool) : Bool := decide (tf σ d own sn x < sm (σ 0 1).toNat (fun h => if p h = true then Vt σ d own sn x h else 0)) && (decide (gd σ x d < 0) || p (gd σ x d).toNat)
def lrl (σ : Mm) (d : Int) (own sn : Nat → Int) (rb : Nat → Int) (x : Nat) : Nat := fsn (σ 0 1).toNat (fun r => isU (σ 1) (σ 2) r && carB σ d own sn x (grp σ rb r))
def lcrn (x : Nat) (r : Int) (s : LSt) : LSt := (fun y => if y = x then r else s.1 y, fun j => if j = s.2.2 then (x : Int) else s.2.1 j, s.2.2 + 1)
def lstp (σ : Mm) (d : Int) (own sn : Nat → Int) (x : Nat) (s : LSt) : LSt := if isF (σ 1) x = true ∧ s.1 x < 0 ∧ lrl σ d own sn s.1 x < (σ 0 1).toNat then lcrn x (lrl σ d own sn s.1 x) s else s
def lpas (σ : Mm) (d : Int) (own sn : Nat → Int) : Nat → LSt → LSt
  | 0, s => s
  | x + 1, s => lstp σ d own sn x (lpas σ d own sn x s)
def litr (σ : Mm) (d : Int) (own sn : Nat → Int) : Nat → LSt
  | 0 => (fun _ => -5, fun _ => 0, 0)
  | k + 1 => lpas σ d own sn (σ 0 1).toNat (litr σ d own sn k)
def lstS (σ : Mm) (d : Int) (own sn : Nat → Int) : LSt := litr σ d own sn 8
def okS (σ : Mm) (s : LSt) : Prop := s.2.2 = cn (σ 0 1).toNat (fun x => isF (σ 1) x && decide (0 ≤ s.1 x)) ∧ ∀ x, s.1 x = -5 ∨ (isF (σ 1) x = true ∧ (x : Int) < σ 0 1 ∧ 0 ≤ s.1 x ∧ s.1 x < σ 0 1 ∧ isU (σ 1) (σ 2) (s.1 x).toNat = true)
theorem cn_imp {p q : Nat → Bool} (h : ∀ i, p i = true → q i = true) : ∀ k : Nat, cn k p ≤ cn k q
  | 0 => Nat.le_refl 0
  | k + 1 => by
    have ih := cn_imp h k
    cases e : p k with
    | true => rw [cn_t e, cn_t (h k e)]; omega
    | false =>
      rw [cn_f e]
      cases e2 : q k with
      | true => rw [cn_t e2]; omega
      | false => rw [cn_f e2]; exact ih
theorem cn_upd {p q : Nat → Bool} {x : Nat} (hx : p x = false) (hq : q x = true) (h : ∀ i, i ≠ x → q i = p i) : ∀ k : Nat, cn k q = cn k p + (if x < k then 1 else 0)
  | 0 => rfl
  | k + 1 => by
    have ih := cn_upd hx hq h k
    by_cases e : k = x
    · subst e
      rw [cn_t hq, cn_f hx, ih, ifn (by omega), ifp (by omega)]
    · cases e2 : p k with
      | true =>
        rw [cn_t e2, cn_t (by rw [h k e]; exact e2), ih]
        by_cases e3 : x < k
        · rw [ifp e3, ifp (by omega)]
        · rw [ifn e3, ifn (by omega)]
      | false =>
        rw [cn_f e2, cn_f (by rw [h k e]; exact e2), ih]
        by_cases e3 : x < k
        · rw [ifp e3, ifp (by omega)]
        · rw [ifn e3, ifn (by omega)]
theorem okS_7 {σ : Mm} (hI : Inv σ) {s : LSt} (h : okS σ s) : s.2.2 ≤ 7 := by
  have b := hI.1.2.2.2.2.2
  have h1 := cn_imp (p := fun x => isF (σ 1) x && decide (0 ≤ s.1 x)) (q := isF (σ 1)) (fun i hi => by simp at hi; exact hi.1) (σ 0 1).toNat
  rw [h.1]; omega
theorem okS_lt {σ : Mm} (hI : Inv σ) {s : LSt} (h : okS σ s) {x : Nat} (hx : (x : Int) < σ 0 1) (hF : isF (σ 1) x = true) (hn : s.1 x < 0) : s.2.2 < 7 := by
  have b := hI.1.2.2.2.2.2
  have h1 := cn_upd (p := fun y => isF (σ 1) y && decide (0 ≤ s.1 y)) (q := fun y => if y = x then true else (isF (σ 1) y && decide (0 ≤ s.1 y))) (x := x) (by simp; intro _; omega) (by simp) (fun i hi => by simp [hi]) (σ 0 1).toNat
  have h2 := cn_imp (p := fun y => if y = x then true else (isF (σ 1) y && decide (0 ≤ s.1 y))) (q := isF (σ 1)) (fun i hi => by
    by_cases e : i = x
    · subst e; exact hF
    · simp [e] at hi; exact hi.1) (σ 0 1).toNat
  rw [ifp (by omega)] at h1
  rw [h.1]; omega
theorem lrl_U {σ : Mm} {d : Int} {own sn rb : Nat → Int} {x : Nat} (h : lrl σ d own sn rb x < (σ 0 1).toNat) : isU (σ 1) (σ 2) (lrl σ d own sn rb x) = true ∧ carB σ d own sn x (grp σ rb (lrl σ d own sn rb x : Nat)) = true := by
  have := fsn_p h
  simp at this
  exact this
theorem okS_crn {σ : Mm} {s : LSt} (h : okS σ s) {x r : Nat} (hx : (x : Int) < σ 0 1) (hF : isF (σ 1) x = true) (hn : s.1 x < 0) (hr : (r : Int) < σ 0 1) (hU : isU (σ 1) (σ 2) r = true) : okS σ (lcrn x r s) := by
  refine ⟨?_, fun y => ?_⟩
  · show s.2.2 + 1 = cn (σ 0 1).toNat (fun y => isF (σ 1) y && decide (0 ≤ (if y = x then (r : Int) else s.1 y)))
    rw [cn_upd (p := fun y => isF (σ 1) y && decide (0 ≤ s.1 y)) (x := x) (by simp; intro _; omega) (by simp [hF]) (fun i hi => by simp [hi]) (σ 0 1).toNat, ifp (by omega), h.1]
  · show (if y = x then (r : Int) else s.1 y) = -5 ∨ (_ ∧ _ ∧ 0 ≤ (if y = x then (r : Int) else s.1 y) ∧ (if y = x then (r : Int) else s.1 y) < σ 0 1 ∧ isU (σ 1) (σ 2) (if y = x then (r : Int) else s.1 y).toNat = true)
    by_cases e : y = x
    · subst e
      simp only [if_true]
      exact Or.inr ⟨hF, hx, by omega, hr, by rw [Int.toNat_natCast]; exact hU⟩
    · simp only [e, if_false]
      exact h.2 y
theorem okS_stp {σ : Mm} (hI : Inv σ) {d : Int} {own sn : Nat → Int} {s : LSt} (h : okS σ s) {x : Nat} (hx : (x : Int) < σ 0 1) : okS σ (lstp σ d own sn x s) := by
  have b := hI.1.2.1
  unfold lstp
  by_cases c : isF (σ 1) x = true ∧ s.1 x < 0 ∧ lrl σ d own sn s.1 x < (σ 0 1).toNat
  · rw [ifp c]
    exact okS_crn h hx c.1 c.2.1 (by omega) (lrl_U c.2.2).1
  · rw [ifn c]; exact h
theorem okS_pas {σ : Mm} (hI : Inv σ) {d : Int} {own sn : Nat → Int} {s : LSt} (h : okS σ s) : ∀ {x : Nat}, (x : Int) ≤ σ 0 1 → okS σ (lpas σ d own sn x s)
  | 0, _ => h
  | x + 1, hx => okS_stp hI (okS_pas hI h (x := x) (by omega)) (by omega)
theorem okS_0 (σ : Mm) (d : Int) (own sn : Nat → Int) : okS σ (litr σ d own sn 0) := by
  refine ⟨?_, fun x => Or.inl rfl⟩
  show 0 = cn (σ 0 1).toNat (fun x => isF (σ 1) x && decide (0 ≤ (-5 : Int)))
  have : ∀ k : Nat, cn k (fun x => isF (σ 1) x && decide (0 ≤ (-5 : Int))) = 0 := by
    intro k
    induction k with
    | zero => rfl
    | succ k ih => rw [cn_f (by simp), ih]
  rw [this]
theorem okS_itr {σ : Mm} (hI : Inv σ) (d : Int) (own sn : Nat → Int) : ∀ k : Nat, okS σ (litr σ d own sn k)
  | 0 => okS_0 σ d own sn
  | k + 1 => okS_pas hI (okS_itr hI d own sn k) (by have := hI.1.2.1; omega)
theorem stp_cases (σ : Mm) (d : Int) (own sn : Nat → Int) (x : Nat) (s : LSt) : (lstp σ d own sn x s = s) ∨ (lstp σ d own sn x s).2.2 = s.2.2 + 1 := by
  unfold lstp
  by_cases c : isF (σ 1) x = true ∧ s.1 x < 0 ∧ lrl σ d own sn s.1 x < (σ 0 1).toNat
  · rw [ifp c]; exact Or.inr rfl
  · rw [ifn c]; exact Or.inl rfl
theorem pas_cases (σ : Mm) (d : Int) (own sn : Nat → Int) (s : LSt) : ∀ x : Nat, (lpas σ d own sn x s = s) ∨ s.2.2 < (lpas σ d own sn x s).2.2
  | 0 => Or.inl rfl
  | x + 1 => by
    have ih := pas_cases σ d own sn s x
    have h := stp_cases σ d own sn x (lpas σ d own sn x s)
    show lstp σ d own sn x (lpas σ d own sn x s) = s ∨ s.2.2 < (lstp σ d own sn x (lpas σ d own sn x s)).2.2
    rcases h with h | h
    · rw [h]; exact ih
    · rcases ih with ih | ih
      · right; rw [h, ih]; omega
      · right; rw [h]; omega
theorem itr_fix {σ : Mm} {d : Int} {own sn : Nat → Int} {k : Nat} (h : litr σ d own sn (k + 1) = litr σ d own sn k) : ∀ j : Nat, litr σ d own sn (k + j) = litr σ d own sn k
  | 0 => rfl
  | j + 1 => by
    show lpas σ d own sn (σ 0 1).toNat (litr σ d own sn (k + j)) = _
    rw [itr_fix h j]; exact h
theorem itr_cnt {σ : Mm} (d : Int) (own sn : Nat → Int) : ∀ k : Nat, k ≤ (litr σ d own sn k).2.2 ∨ litr σ d own sn (k + 1) = litr σ d own sn k
  | 0 => Or.inl (Nat.zero_le _)
  | k + 1 => by
    rcases itr_cnt (σ := σ) d own sn k with h | h
    · rcases pas_cases σ d own sn (litr σ d own sn k) (σ 0 1).toNat with e | e
      · right
        have e' : litr σ d own sn (k + 1) = litr σ d own sn k := e
        show lpas σ d own sn (σ 0 1).toNat (litr σ d own sn (k + 1)) = _
        rw [e']; exact e'.trans rfl
      · left
        show k + 1 ≤ (lpas σ d own sn (σ 0 1).toNat (litr σ d own sn k)).2.2
        omega
    · right
      show lpas σ d own sn (σ 0 1).toNat (litr σ d own sn (k + 1)) = _
      rw [h]; exact h.trans rfl
theorem itr_8 {σ : Mm} (hI : Inv σ) (d : Int) (own sn : Nat → Int) : litr σ d own sn 9 = litr σ d own sn 8 := by
  rcases itr_cnt (σ := σ) d own sn 8 with h | h
  · have := okS_7 hI (okS_itr hI d own sn 8)
    omega
  · exact h
/-- a fixed point that is reached is LEAST -/
theorem itr_lst {σ : Mm} (hI : Inv σ) {d : Int} {own sn : Nat → Int} {k : Nat} (h : litr σ d own sn (k + 1) = litr σ d own sn k) : litr σ d own sn k = lstS σ d own sn := by
  unfold lstS
  by_cases c : k ≤ 8
  · have := itr_fix h (8 - k)
    rw [show k + (8 - k) = 8 by omega] at this
    exact this.symm
  · have := itr_fix (itr_8 hI d own sn) (k - 8)
    rw [show 8 + (k - 8) = k by omega] at this
    exact this
