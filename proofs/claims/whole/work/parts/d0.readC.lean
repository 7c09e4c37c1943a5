/-! The class reads a text: letters, words, numbers. -/
section
variable {t : Nat → Int} {m n : Nat} {M : Mm}
def RDc (M : Mm) (t : Nat → Int) (m p : Nat) : Prop := (m ≤ 100 ∧ p ≤ m) ∧ M 2 1 = (m : Int) ∧ M 2 3 = (p : Int) ∧ (∀ j, j < m → M 30 j = t j) ∧ ∀ j, -128 ≤ t j ∧ t j ≤ 127
theorem RDc.fr {M' : Mm} {L : List Nat} {p : Nat} (h : RDc M t m p) (f : Fr cdC L M M') (h1 : L.elem 1201 = false) (h2 : L.elem 1203 = false) (h3 : L.elem 30 = false) : RDc M' t m p :=
  ⟨h.1, (f 2 1 h1).trans h.2.1, (f 2 3 h2).trans h.2.2.1, fun j hj => (f 30 j h3).trans (h.2.2.2.1 j hj), h.2.2.2.2⟩
theorem RDc.adv {p q : Nat} (h : RDc M t m p) (hq : q ≤ m) : RDc (mset M 2 3 (q : Int)) t m q :=
  ⟨⟨h.1.1, hq⟩, by rw [mg_j _ _ _ (by decide)]; exact h.2.1, mg_s _ _ _ _, fun j hj => by rw [mg_k _ _ _ (by decide)]; exact h.2.2.2.1 j hj, h.2.2.2.2⟩
theorem nx_c {p : Nat} (h : RDc M t m p) : (M 2 1 ≤ M 2 3 ∧ nx t m p = -1) ∨ (¬ M 2 1 ≤ M 2 3 ∧ p < m ∧ (0 ≤ M 2 3 ∧ M 2 3 < 100) ∧ M 30 (M 2 3).toNat = nx t m p) := by
  obtain ⟨h1, h2, h3, h4, h5⟩ := h
  rw [h2, h3]
  unfold nx
  by_cases c : p < m
  · refine Or.inr ⟨by omega, c, by omega, ?_⟩
    rw [Int.toNat_natCast, h4 p c, ifp c]
  · refine Or.inl ⟨by omega, ?_⟩
    rw [ifn c]
theorem e_C_takes {p : Nat} (h : RDc M t m p) {c : Int} (hc : c ≠ -1) : f_C_takes n c M = if nx t m p = c then some (1, mset M 2 3 ((p + 1 : Nat) : Int)) else some (0, M) := by
  unfold f_C_takes
  rcases nx_c h with ⟨q1, q2⟩ | ⟨q1, q2, q3, q4⟩
  · rw [ifp q1, q2, ifn (fun z => hc z.symm)]
  · rw [ifn q1, ckp q3, q4, h.2.2.1, w_succ (by have := h.1; omega)]
theorem sWord_app (l l' : List Int) : ∀ p, sWord t m (l ++ l') p = if (sWord t m l p).2 = true then sWord t m l' (sWord t m l p).1 else ((sWord t m l p).1, false) := by
  induction l with
  | nil => intro p; rfl
  | cons x l ih =>
    intro p
    show (if nx t m p = x then sWord t m (l ++ l') (p + 1) else (p, false)) = _
    by_cases c : nx t m p = x
    · rw [ifp c, ih (p + 1)]
      have e : sWord t m (x :: l) p = sWord t m l (p + 1) := by show (if nx t m p = x then sWord t m l (p + 1) else (p, false)) = _; rw [ifp c]
      rw [e]
    · rw [ifn c]
      have e : sWord t m (x :: l) p = (p, false) := by show (if nx t m p = x then sWord t m l (p + 1) else (p, false)) = _; rw [ifn c]
      rw [e]; rfl
theorem l_C_takesAll (s : Int) (l : List Int) (hl : sLen s = (l.length : Int)) (hch : ∀ i, i < l.length → sCh s (i : Int) = (l[i]?).getD 0 ∧ (l[i]?).getD 0 ≠ -1) (h5 : l.length ≤ 10) : ∀ (k i g : Nat) (p : Nat) (M : Mm), i + k = l.length → k < g → RDc M t m p → ∃ M' q, lp_C_takesAll_2 n g s i M = some (if (sWord t m (l.drop i) p).2 = true then 1 else 0, M') ∧ q = (sWord t m (l.drop i) p).1 ∧ RDc M' t m q ∧ Fr cdC [1203] M M' := by
  intro k
  induction k with
  | zero =>
    intro i g p M hi hg hR
    obtain ⟨g', rfl, _⟩ := f_pos hg
    have e : l.drop i = [] := List.drop_eq_nil_of_le (by omega)
    rw [e]
    refine ⟨M, p, ?_, rfl, hR, Fr.rf⟩
    show f_C_takesAll_2 n (lp_C_takesAll_2 n g') s i M = _
    unfold f_C_takesAll_2
    rw [ifp (by omega)]
    rfl
  | succ k ih =>
    intro i g p M hi hg hR
    obtain ⟨g', rfl, hg'⟩ := f_pos hg
    have hc := hch i (by omega)
    have hlt : i < l.length := by omega
    have e : l.drop i = ((l[i]?).getD 0) :: l.drop (i + 1) := by
      rw [List.drop_eq_getElem_cons hlt, List.getElem?_eq_getElem hlt]
      rfl
    rw [e]
    show ∃ M' q, f_C_takesAll_2 n (lp_C_takesAll_2 n g') s i M = some (if (if nx t m p = (l[i]?).getD 0 then sWord t m (l.drop (i + 1)) (p + 1) else (p, false)).2 = true then 1 else 0, M') ∧ q = (if nx t m p = (l[i]?).getD 0 then sWord t m (l.drop (i + 1)) (p + 1) else (p, false)).1 ∧ _
    unfold f_C_takesAll_2
    rw [ifn (by omega), ckp (by omega), hc.1, e_C_takes hR hc.2]
    by_cases c : nx t m p = (l[i]?).getD 0
    · have := nx_lt c hc.2
      rw [ifp c, ifp c, bnd_mk, ifp (show (1 : Int) ≠ 0 by decide), w_succ (by omega)]
      obtain ⟨M', q, k1, k2, k3, k4⟩ := ih (i + 1) g' (p + 1) (mset M 2 3 ((p + 1 : Nat) : Int)) (by omega) hg' (hR.adv (by omega))
      exact ⟨M', q, k1, k2, k3, (Fr.rf.set (N1 := M) (k := 2) (j := 3) (v := ((p + 1 : Nat) : Int)) rfl).trans k4⟩
    · rw [ifn c, ifn c, bnd_mk, ifn (show ¬ (0 : Int) ≠ 0 by decide)]
      exact ⟨M, p, rfl, rfl, hR, Fr.rf⟩
def wdS (w : Nat) : List Int := match w with
  | 0 => [110, 101, 101, 100]
  | 1 => [109, 111, 115, 116]
  | 2 => [111, 108, 100]
  | 3 => [103, 111, 108, 100]
  | _ => [115, 108, 101, 101, 112]
theorem wdS_l (w : Nat) (hw : w < 5) : wLet w = wdS w ++ [32] := by
  match w, hw with
  | 0, _ => rfl
  | 1, _ => rfl
  | 2, _ => rfl
  | 3, _ => rfl
  | 4, _ => rfl
theorem wd_ch : ∀ w : Nat, w < 5 → sLen (w : Int) = ((wdS w).length : Int) ∧ (wdS w).length ≤ 10 ∧ (∀ i, i < (wdS w).length → sCh (w : Int) (i : Int) = ((wdS w)[i]?).getD 0 ∧ ((wdS w)[i]?).getD 0 ≠ -1) := by decide
theorem e_C_nameOf (w : Nat) (hw : w < 5) (M : Mm) : f_C_nameOf n w M = some ((w : Int), M) := by
  unfold f_C_nameOf
  match w, hw with
  | 0, _ => rfl
  | 1, _ => rfl
  | 2, _ => rfl
  | 3, _ => rfl
  | 4, _ => rfl
/-- the first letters -/
def wFst (w : Nat) : Int := match w with
  | 0 => 110
  | 1 => 109
  | 2 => 111
  | 3 => 103
  | _ => 115
theorem wFst_c : ∀ w : Nat, w < 5 → sCh (w : Int) 0 = wFst w ∧ 0 < sLen (w : Int) := by decide
theorem e_C_readWord (hn : 3000 ≤ n) {p : Nat} (hR : RDc M t m p) : ∃ M' q, f_C_readWord n M = some (if (sWord t m (wdS (wOf (nx t m p))) p).2 = true then (wOf (nx t m p) : Int) else -1, M') ∧ q = (sWord t m (wdS (wOf (nx t m p))) p).1 ∧ RDc M' t m q ∧ Fr cdC [1203] M M' := by
  have hnx := nx_c hR
  -- one of the words is tried
  have tryW : ∀ (w g : Nat), w < 5 → 0 < g → (nx t m p = wFst w → ∃ M' q, lp_C_readWord_2 n g w M = some (if (sWord t m (wdS w) p).2 = true then (w : Int) else -1, M') ∧ q = (sWord t m (wdS w) p).1 ∧ RDc M' t m q ∧ Fr cdC [1203] M M') ∧ (nx t m p ≠ wFst w → ∃ g', g = g' + 1 ∧ lp_C_readWord_2 n g w M = lp_C_readWord_2 n g' ((w + 1 : Nat) : Int) M) := fun w g hw hg => by
    obtain ⟨g', rfl, _⟩ := f_pos hg
    have hf := wFst_c w hw
    have hne : wFst w ≠ -1 := by
      have : ∀ w : Nat, w < 5 → wFst w ≠ -1 := by decide
      exact this w hw
    have e : lp_C_readWord_2 n (g' + 1) w M = f_C_readWord_2 n (lp_C_readWord_2 n g') w M := rfl
    refine ⟨fun hx => ?_, fun hx => ⟨g', rfl, ?_⟩⟩
    · rw [e]
      unfold f_C_readWord_2
      rw [ifn (by omega), e_C_nameOf w hw, bnd_mk]
      rcases hnx with ⟨q1, q2⟩ | ⟨q1, q2, q3, q4⟩
      · rw [q2] at hx; exact absurd hx.symm hne
      · rw [ifn q1, ckp q3, ckp ⟨by decide, hf.2⟩, q4, hf.1, ifn (fun z => z hx)]
        have hc := wd_ch w hw
        obtain ⟨M', q, k1, k2, k3, k4⟩ := l_C_takesAll (n := n) (w : Int) (wdS w) hc.1 hc.2.2 hc.2.1 (wdS w).length 0 n p M (by omega) (by omega) hR
        have k1' : f_C_takesAll n (w : Int) M = _ := k1
        rw [List.drop_zero] at k1' k2
        rw [k1', bnd_mk]
        by_cases b : (sWord t m (wdS w) p).2 = true
        · rw [ifp b, ifp b, ifn (show ¬ (1 : Int) = 0 by decide)]
          exact ⟨M', q, rfl, k2, k3, k4⟩
        · rw [ifn b, ifn b, ifp rfl]
          exact ⟨M', q, rfl, k2, k3, k4⟩
    · rw [e]
      unfold f_C_readWord_2 f_C_readWord_54
      rw [ifn (by omega), e_C_nameOf w hw, bnd_mk, w_succ (by omega)]
      rcases hnx with ⟨q1, q2⟩ | ⟨q1, q2, q3, q4⟩
      · rw [ifp q1]
      · rw [ifn q1, ckp q3, ckp ⟨by decide, hf.2⟩, q4, hf.1, ifp hx]
  have e0 : f_C_readWord n M = lp_C_readWord_2 n n ((0 : Nat) : Int) M := rfl
  rw [e0]
  have t0 := tryW 0 n (by decide) (by omega)
  by_cases c0 : nx t m p = 110
  · have hw : wOf (nx t m p) = 0 := by unfold wOf; rw [ifp c0]
    rw [hw]; exact t0.1 c0
  obtain ⟨g1, hg1, e1⟩ := t0.2 c0
  rw [e1]
  have t1 := tryW 1 g1 (by decide) (by omega)
  by_cases c1 : nx t m p = 109
  · have hw : wOf (nx t m p) = 1 := by unfold wOf; rw [ifn c0, ifp c1]
    rw [hw]; exact t1.1 c1
  obtain ⟨g2, hg2, e2⟩ := t1.2 c1
  rw [e2]
  have t2 := tryW 2 g2 (by decide) (by omega)
  by_cases c2 : nx t m p = 111
  · have hw : wOf (nx t m p) = 2 := by unfold wOf; rw [ifn c0, ifn c1, ifp c2]
    rw [hw]; exact t2.1 c2
  obtain ⟨g3, hg3, e3⟩ := t2.2 c2
  rw [e3]
  have t3 := tryW 3 g3 (by decide) (by omega)
  by_cases c3 : nx t m p = 103
  · have hw : wOf (nx t m p) = 3 := by unfold wOf; rw [ifn c0, ifn c1, ifn c2, ifp c3]
    rw [hw]; exact t3.1 c3
  obtain ⟨g4, hg4, e4⟩ := t3.2 c3
  rw [e4]
  have t4 := tryW 4 g4 (by decide) (by omega)
  have hw : wOf (nx t m p) = 4 := by unfold wOf; rw [ifn c0, ifn c1, ifn c2, ifn c3]
  rw [hw]
  by_cases c4 : nx t m p = 115
  · exact t4.1 c4
  · obtain ⟨g5, hg5, e5⟩ := t4.2 c4
    rw [e5]
    obtain ⟨g6, rfl, _⟩ := f_pos (show 0 < g5 by omega)
    have es : sWord t m (wdS 4) p = (p, false) := by
      show (if nx t m p = 115 then sWord t m [108, 101, 101, 112] (p + 1) else (p, false)) = _
      rw [ifn c4]
    rw [es]
    refine ⟨M, p, ?_, rfl, hR, Fr.rf⟩
    show f_C_readWord_2 n (lp_C_readWord_2 n g6) ((5 : Nat) : Int) M = _
    unfold f_C_readWord_2
    rw [ifp (by decide)]
    rfl
/-- one more digit -/
theorem rn_step (g : Nat) {p k : Nat} {v least : Int} (hR : RDc M t m p) (hk : k < 3) (hv : 0 ≤ v ∧ v ≤ 99) (hD : dg (nx t m p) = true) : lp_C_readNumber_4 n (g + 1) least v k M = lp_C_readNumber_4 n g least (10 * v + nx t m p - 48) ((k + 1 : Nat) : Int) (mset M 2 3 ((p + 1 : Nat) : Int)) := by
  have hd := dg_t.mp hD
  have hi := hR.1
  show f_C_readNumber_4 n (lp_C_readNumber_4 n g) least v k M = _
  unfold f_C_readNumber_4
  rcases nx_c hR with ⟨q1, q2⟩ | ⟨q1, q2, q3, q4⟩
  · omega
  · rw [ifn (by omega), ifn q1, ckp q3, q4, ifn (by omega), ckp q3, ifn (by omega), ckp q3, hR.2.2.1, w32_s (x := v * 10) (by omega) (by omega), w32_s (x := v * 10 + nx t m p) (by omega) (by omega), w32_s (x := v * 10 + nx t m p - 48) (by omega) (by omega), w_succ (show p < 2000000000 by omega), w_succ (show k < 2000000000 by omega), show v * 10 = 10 * v by omega]
theorem rn_end (g : Nat) {p k : Nat} {v least : Int} (hR : RDc M t m p) (hk : 1 ≤ k ∧ k ≤ 3) (hp : k ≤ p) (h : k = 3 ∨ dg (nx t m p) = false) : lp_C_readNumber_4 n (g + 1) least v k M = if least ≤ v then some (v, M) else some (-1, mset M 2 3 (((if k = 3 then p - 1 else p) : Nat) : Int)) := by
  have hi := hR.1
  have fin : f_C_readNumber_82 n least v k M = if least ≤ v then some (v, M) else some (-1, mset M 2 3 (((if k = 3 then p - 1 else p) : Nat) : Int)) := by
    unfold f_C_readNumber_82 f_C_readNumber_108
    rw [ifp (by omega), hR.2.2.1]
    by_cases c : least ≤ v
    · rw [ifp c, ifp c]
    · rw [ifn c, ifn c]
      by_cases c3 : k = 3
      · rw [ifn (by omega), ifp c3, w32_s (by omega) (by omega), show (p : Int) - 1 = ((p - 1 : Nat) : Int) by omega]
      · rw [ifp (by omega), ifn c3, w32_s (by omega) (by omega), Int.sub_zero]
  show f_C_readNumber_4 n (lp_C_readNumber_4 n g) least v k M = _
  unfold f_C_readNumber_4
  by_cases c : 3 ≤ (k : Int)
  · rw [ifp c, fin]
  · rw [ifn c]
    have hD : dg (nx t m p) = false := h.resolve_left (by omega)
    rcases nx_c hR with ⟨q1, q2⟩ | ⟨q1, q2, q3, q4⟩
    · rw [ifp q1, fin]
    · rw [ifn q1, ckp q3, q4]
      have hd : ¬ (48 ≤ nx t m p ∧ nx t m p ≤ 57) := fun z => by rw [dg_t.mpr z] at hD; cases hD
      by_cases c1 : nx t m p < 48
      · rw [ifp c1, fin]
      · rw [ifn c1, ckp q3, ifp (by omega), fin]
theorem e_C_readNumber (hn : 3000 ≤ n) {p : Nat} (hR : RDc M t m p) (ab : Bool) : ∃ M' q, f_C_readNumber n (if ab = true then 1 else 0) M = some ((sNum t m ab p).2.getD (-1), M') ∧ q = (sNum t m ab p).1 ∧ RDc M' t m q ∧ Fr cdC [1203] M M' ∧ ∀ v, (sNum t m ab p).2 = some v → 0 ≤ v ∧ v ≤ 999 := by
  obtain ⟨g, rfl⟩ : ∃ g, n = g + 4 := ⟨n - 4, by omega⟩
  have hi := hR.1
  have hab : ∀ v : Int, 0 ≤ v → ((if ab = true then (1 : Int) else 0) ≤ v ↔ ¬ (ab = true ∧ v = 0)) := fun v hv => by
    cases ab
    · simp; exact hv
    · simp; omega
  have adv1 : ∀ (M : Mm) (q : Nat), Fr cdC [1203] M (mset M 2 3 (q : Int)) := fun M q => Fr.rf.set rfl
  unfold f_C_readNumber sNum
  by_cases c1 : dg (nx t m p) = true
  · have d1 := dg_t.mp c1
    have l1 := dg_lt c1
    have s1 := rn_step (n := g + 4) (g + 3) (k := 0) (v := 0) (least := if ab = true then 1 else 0) hR (by decide) (by decide) c1
    have s1' : lp_C_readNumber_4 (g + 4) (g + 4) (if ab = true then 1 else 0) 0 0 M = _ := s1
    rw [ifp c1, s1']
    have hR1 := hR.adv (q := p + 1) (by omega)
    have f1 := adv1 M (p + 1)
    generalize hM1 : mset M 2 3 ((p + 1 : Nat) : Int) = M1 at hR1 f1 ⊢
    by_cases c2 : dg (nx t m (p + 1)) = true
    · have d2 := dg_t.mp c2
      have l2 := dg_lt c2
      rw [ifp c2, rn_step (n := g + 4) (g + 2) (k := 0 + 1) hR1 (by decide) (by omega) c2]
      have hR2 := hR1.adv (q := p + 1 + 1) (by omega)
      have f2 := f1.trans (adv1 M1 (p + 1 + 1))
      generalize hM2 : mset M1 2 3 ((p + 1 + 1 : Nat) : Int) = M2 at hR2 f2 ⊢
      by_cases c3 : dg (nx t m (p + 2)) = true
      · have d3 := dg_t.mp c3
        have l3 := dg_lt c3
        rw [ifp c3, rn_step (n := g + 4) (g + 1) (k := 0 + 1 + 1) hR2 (by decide) (by omega) c3]
        have hR3 := hR2.adv (q := p + 1 + 1 + 1) (by omega)
        have f3 := f2.trans (adv1 M2 (p + 1 + 1 + 1))
        generalize hM3 : mset M2 2 3 ((p + 1 + 1 + 1 : Nat) : Int) = M3 at hR3 f3 ⊢
        have e3 : nx t m (p + 1 + 1) = nx t m (p + 2) := rfl
        have ev : 10 * (10 * (10 * 0 + nx t m p - 48) + nx t m (p + 1) - 48) + nx t m (p + 1 + 1) - 48 = 100 * (nx t m p - 48) + 10 * (nx t m (p + 1) - 48) + (nx t m (p + 2) - 48) := by rw [e3]; omega
        rw [ev, rn_end (n := g + 4) g (k := 0 + 1 + 1 + 1) hR3 (by decide) (by omega) (Or.inl rfl)]
        by_cases c4 : ab = true ∧ 100 * (nx t m p - 48) + 10 * (nx t m (p + 1) - 48) + (nx t m (p + 2) - 48) = 0
        · rw [ifp (show (ab && decide (100 * (nx t m p - 48) + 10 * (nx t m (p + 1) - 48) + (nx t m (p + 2) - 48) = 0)) = true by rw [c4.1, decide_eq_true c4.2]; rfl), ifn (fun z => (hab _ (by omega)).mp z c4)]
          exact ⟨_, p + 2, rfl, rfl, hR3.adv (q := p + 2) (by omega), f3.trans (adv1 M3 (p + 2)), fun v hv => by cases hv⟩
        · rw [ifn (show ¬ (ab && decide (100 * (nx t m p - 48) + 10 * (nx t m (p + 1) - 48) + (nx t m (p + 2) - 48) = 0)) = true from fun z => c4 (by rw [Bool.and_eq_true, decide_eq_true_eq] at z; exact z)), ifp ((hab _ (by omega)).mpr c4)]
          exact ⟨M3, p + 3, rfl, rfl, hR3, f3, fun v hv => by cases hv; omega⟩
      · rw [ifn c3]
        have ev : 10 * (10 * 0 + nx t m p - 48) + nx t m (p + 1) - 48 = 10 * (nx t m p - 48) + (nx t m (p + 1) - 48) := by omega
        rw [ev, rn_end (n := g + 4) (g + 1) (k := 0 + 1 + 1) hR2 (by decide) (by omega) (Or.inr (by simpa using c3))]
        by_cases c4 : ab = true ∧ 10 * (nx t m p - 48) + (nx t m (p + 1) - 48) = 0
        · rw [ifp (show (ab && decide (10 * (nx t m p - 48) + (nx t m (p + 1) - 48) = 0)) = true by rw [c4.1, decide_eq_true c4.2]; rfl), ifn (fun z => (hab _ (by omega)).mp z c4)]
          exact ⟨_, p + 2, rfl, rfl, hR2.adv (q := p + 2) (by omega), f2.trans (adv1 M2 (p + 2)), fun v hv => by cases hv⟩
        · rw [ifn (show ¬ (ab && decide (10 * (nx t m p - 48) + (nx t m (p + 1) - 48) = 0)) = true from fun z => c4 (by rw [Bool.and_eq_true, decide_eq_true_eq] at z; exact z)), ifp ((hab _ (by omega)).mpr c4)]
          exact ⟨M2, p + 2, rfl, rfl, hR2, f2, fun v hv => by cases hv; omega⟩
    · rw [ifn c2]
      have ev : 10 * 0 + nx t m p - 48 = nx t m p - 48 := by omega
      rw [ev, rn_end (n := g + 4) (g + 2) (k := 0 + 1) hR1 (by decide) (by omega) (Or.inr (by simpa using c2))]
      by_cases c4 : ab = true ∧ nx t m p - 48 = 0
      · rw [ifp (show (ab && decide (nx t m p - 48 = 0)) = true by rw [c4.1, decide_eq_true c4.2]; rfl), ifn (fun z => (hab _ (by omega)).mp z c4)]
        exact ⟨_, p + 1, rfl, rfl, hR1.adv (q := p + 1) (by omega), f1.trans (adv1 M1 (p + 1)), fun v hv => by cases hv⟩
      · rw [ifn (show ¬ (ab && decide (nx t m p - 48 = 0)) = true from fun z => c4 (by rw [Bool.and_eq_true, decide_eq_true_eq] at z; exact z)), ifp ((hab _ (by omega)).mpr c4)]
        exact ⟨M1, p + 1, rfl, rfl, hR1, f1, fun v hv => by cases hv; omega⟩
  · rw [ifn c1]
    refine ⟨M, p, ?_, rfl, hR, Fr.rf, fun v hv => by cases hv⟩
    show f_C_readNumber_4 (g + 4) (lp_C_readNumber_4 (g + 4) (g + 3)) _ 0 0 M = _
    unfold f_C_readNumber_4 f_C_readNumber_82
    have hd : ¬ (48 ≤ nx t m p ∧ nx t m p ≤ 57) := fun z => c1 (dg_t.mpr z)
    rw [ifn (show ¬ (3 : Int) ≤ 0 by decide), ifn (show ¬ (0 : Int) ≠ 0 by decide)]
    rcases nx_c hR with ⟨q1, q2⟩ | ⟨q1, q2, q3, q4⟩
    · rw [ifp q1]; rfl
    · rw [ifn q1, ckp q3, q4]
      by_cases z : nx t m p < 48
      · rw [ifp z]; rfl
      · rw [ifn z, ckp q3, ifp (by omega)]; rfl
end
