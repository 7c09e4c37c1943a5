/-! The class's expressions are the plain ones. -/
section
variable {t : Nat → Int} {m n : Nat} {M : Mm}
def CXL : List Nat := [1203, 1211, 37]
/-- code is put behind e -/
def GRW (M M' : Mm) (e : Nat) (c : List Int) : Prop := M' 2 11 = ((e + c.length : Nat) : Int) ∧ (∀ i, i < e → M' 37 i = M 37 i) ∧ ∀ i, i < c.length → M' 37 (e + i) = (c[i]?).getD 0
theorem GRW.trans {M1 M2 : Mm} {e : Nat} {c c' : List Int} (h : GRW M M1 e c) (h' : GRW M1 M2 (e + c.length) c') : GRW M M2 e (c ++ c') := by
  refine ⟨?_, fun i hi => (h'.2.1 i (by omega)).trans (h.2.1 i hi), fun i hi => ?_⟩
  · rw [h'.1, List.length_append]; congr 1; omega
  · by_cases q : i < c.length
    · rw [h'.2.1 _ (by omega), h.2.2 i q, List.getElem?_append_left q]
    · rw [List.length_append] at hi
      have := h'.2.2 (i - c.length) (by omega)
      rw [show e + c.length + (i - c.length) = e + i by omega] at this
      rw [this, List.getElem?_append_right (by omega)]
theorem GRW.keep {M' : Mm} {e : Nat} (h : Fr cdC [1203] M M') (he : M 2 11 = (e : Int)) : GRW M M' e [] :=
  ⟨by rw [h 2 11 rfl, he]; rfl, fun i _ => h 37 i rfl, fun i hi => absurd hi (Nat.not_lt_zero i)⟩
/-- what was there stays -/
def KPc (M M' : Mm) (e : Nat) : Prop := ∀ i, i < e → M' 37 i = M 37 i
theorem e_C_put {e : Nat} (he : M 2 11 = (e : Int)) (hlt : e < 2000) (op : Int) : ∃ M', f_C_put n op M = some (0, M') ∧ Fr cdC [1211, 37] M M' ∧ GRW M M' e [op] := by
  unfold f_C_put
  rw [he, ifn (by omega), ckp (by omega), Int.toNat_natCast, mg_k _ _ _ (show (2 : Nat) ≠ 37 by decide), he, w_succ (by omega)]
  refine ⟨_, rfl, (Fr.rf.set rfl).set rfl, mg_s _ _ _ _, fun i hi => ?_, fun i hi => ?_⟩
  · rw [mg_k _ _ _ (by decide), mg_j _ _ _ (by omega)]
  · have : i = 0 := by
      have : i < 1 := hi
      omega
    subst this
    rw [mg_k _ _ _ (by decide)]
    exact mg_s _ _ _ _
theorem l_C_toOne (s : Int) (l : List Int) (hl : sLen s = (l.length : Int)) (hch : ∀ i, i < l.length → sCh s (i : Int) = (l[i]?).getD 0 ∧ (l[i]?).getD 0 ≠ -1) (h5 : l.length ≤ 10) {p : Nat} (hR : RDc M t m p) : ∀ (k i g : Nat), i + k = l.length → k < g → (∃ j, i ≤ j ∧ j < l.length ∧ nx t m p = (l[j]?).getD 0 ∧ (∀ j', i ≤ j' → j' < j → nx t m p ≠ (l[j']?).getD 0) ∧ lp_C_takesOneOf_2 n g s i M = some ((j : Int), mset M 2 3 ((p + 1 : Nat) : Int))) ∨ ((∀ j, i ≤ j → j < l.length → nx t m p ≠ (l[j]?).getD 0) ∧ lp_C_takesOneOf_2 n g s i M = some (-1, M)) := by
  intro k
  induction k with
  | zero =>
    intro i g hi hg
    obtain ⟨g', rfl, _⟩ := f_pos hg
    refine Or.inr ⟨fun j h1 h2 => by omega, ?_⟩
    show f_C_takesOneOf_2 n (lp_C_takesOneOf_2 n g') s i M = _
    unfold f_C_takesOneOf_2
    rw [ifp (by omega)]
  | succ k ih =>
    intro i g hi hg
    obtain ⟨g', rfl, hg'⟩ := f_pos hg
    have hc := hch i (by omega)
    have e : lp_C_takesOneOf_2 n (g' + 1) s i M = if nx t m p = (l[i]?).getD 0 then some ((i : Int), mset M 2 3 ((p + 1 : Nat) : Int)) else lp_C_takesOneOf_2 n g' s ((i + 1 : Nat) : Int) M := by
      show f_C_takesOneOf_2 n (lp_C_takesOneOf_2 n g') s i M = _
      unfold f_C_takesOneOf_2 f_C_takesOneOf_50
      rw [ifn (by omega), w_succ (show i < 2000000000 by omega)]
      rcases nx_c hR with ⟨q1, q2⟩ | ⟨q1, q2, q3, q4⟩
      · rw [ifp q1, q2, ifn (fun z => hc.2 z.symm)]
      · rw [ifn q1, ckp q3, ckp (by omega), q4, hc.1, hR.2.2.1, w_succ (by have := hR.1; omega)]
        by_cases c : nx t m p = (l[i]?).getD 0
        · rw [ifn (fun z => z c), ifp c]
        · rw [ifp c, ifn c]
    rw [e]
    by_cases c : nx t m p = (l[i]?).getD 0
    · rw [ifp c]
      exact Or.inl ⟨i, Nat.le_refl i, by omega, c, fun j' h1 h2 => by omega, rfl⟩
    · rw [ifn c]
      rcases ih (i + 1) g' (by omega) hg' with ⟨j, j1, j2, j3, j4, j5⟩ | ⟨j1, j2⟩
      · refine Or.inl ⟨j, by omega, j2, j3, fun j' h1 h2 => ?_, j5⟩
        by_cases z : j' = i
        · rw [z]; exact c
        · exact j4 j' (by omega) h2
      · refine Or.inr ⟨fun j h1 h2 => ?_, j2⟩
        by_cases z : j = i
        · rw [z]; exact c
        · exact j1 j (by omega) h2
theorem e_C_letter (hn : 3000 ≤ n) {p : Nat} (hR : RDc M t m p) : f_C_takesOneOf n 5 M = if lett (nx t m p) < 0 then some (-1, M) else some (lett (nx t m p), mset M 2 3 ((p + 1 : Nat) : Int)) := by
  have h := l_C_toOne (n := n) 5 [107, 104, 100, 112, 118] (by decide) (by decide) (by decide) hR 5 0 n rfl (by omega)
  have e : f_C_takesOneOf n 5 M = lp_C_takesOneOf_2 n n 5 ((0 : Nat) : Int) M := rfl
  rw [e]
  rcases h with ⟨j, _, j2, j3, j4, j5⟩ | ⟨j1, j2⟩
  · rw [j5]
    have hj : j < 5 := j2
    unfold lett
    match j, hj with
    | 0, _ =>
      have j3' : nx t m p = 107 := j3
      rw [j3']; rfl
    | 1, _ =>
      have j3' : nx t m p = 104 := j3
      rw [j3']; rfl
    | 2, _ =>
      have j3' : nx t m p = 100 := j3
      rw [j3']; rfl
    | 3, _ =>
      have j3' : nx t m p = 112 := j3
      rw [j3']; rfl
    | 4, _ =>
      have j3' : nx t m p = 118 := j3
      rw [j3']; rfl
  · rw [j2]
    have a0 : nx t m p ≠ 107 := j1 0 (by decide) (by decide)
    have a1 : nx t m p ≠ 104 := j1 1 (by decide) (by decide)
    have a2 : nx t m p ≠ 100 := j1 2 (by decide) (by decide)
    have a3 : nx t m p ≠ 112 := j1 3 (by decide) (by decide)
    have a4 : nx t m p ≠ 118 := j1 4 (by decide) (by decide)
    unfold lett
    rw [ifn a0, ifn a1, ifn a2, ifn a3, ifn a4, ifp (by decide)]
theorem e_C_rel (hn : 3000 ≤ n) {p : Nat} (hR : RDc M t m p) : f_C_takesOneOf n 6 M = if 60 ≤ nx t m p ∧ nx t m p ≤ 62 then some (nx t m p - 60, mset M 2 3 ((p + 1 : Nat) : Int)) else some (-1, M) := by
  have h := l_C_toOne (n := n) 6 [60, 61, 62] (by decide) (by decide) (by decide) hR 3 0 n rfl (by omega)
  have e : f_C_takesOneOf n 6 M = lp_C_takesOneOf_2 n n 6 ((0 : Nat) : Int) M := rfl
  rw [e]
  rcases h with ⟨j, _, j2, j3, j4, j5⟩ | ⟨j1, j2⟩
  · rw [j5]
    have hj : j < 3 := j2
    match j, hj with
    | 0, _ =>
      have j3' : nx t m p = 60 := j3
      rw [j3']; rfl
    | 1, _ =>
      have j3' : nx t m p = 61 := j3
      rw [j3']; rfl
    | 2, _ =>
      have j3' : nx t m p = 62 := j3
      rw [j3']; rfl
  · rw [j2]
    have a0 : nx t m p ≠ 60 := j1 0 (by decide) (by decide)
    have a1 : nx t m p ≠ 61 := j1 1 (by decide) (by decide)
    have a2 : nx t m p ≠ 62 := j1 2 (by decide) (by decide)
    rw [ifn (by omega)]
/-- what is to be had of a reader -/
def ResC (t : Nat → Int) (m : Nat) (o : Rr) (M : Mm) (p e : Nat) (x : Nat × Option (List Int)) : Prop :=
  (x.2 = none → ∃ M', o = some (0, M') ∧ RDc M' t m x.1 ∧ Fr cdC CXL M M' ∧ KPc M M' e) ∧ ∀ c, x.2 = some c → ∃ M', o = some (1, M') ∧ RDc M' t m x.1 ∧ Fr cdC CXL M M' ∧ GRW M M' e c ∧ c.length + p ≤ x.1 ∧ x.1 ≤ m
theorem e_C_readTest (hn : 3000 ≤ n) {p e e0 : Nat} (hR : RDc M t m p) (he : M 2 11 = (e : Int)) (h0 : e ≤ e0 + p) (h19 : e0 ≤ 1900) : ResC t m (f_C_readTest n M) M p e (sTest t m p) ∧ ∀ c, (sTest t m p).2 = some c → p < (sTest t m p).1 := by
  have hi := hR.1
  unfold f_C_readTest sTest
  rw [e_C_letter hn hR]
  by_cases c0 : lett (nx t m p) < 0
  · rw [ifp c0, ifp c0, bnd_mk, ifn (by decide)]
    unfold f_C_readTest_21 f_C_readTest_35
    rw [ifn (by decide), ifn (by decide)]
    exact ⟨⟨fun _ => ⟨M, rfl, hR, Fr.rf, fun _ _ => rfl⟩, fun c hc => by cases hc⟩, fun c hc => by cases hc⟩
  · have hl5 : lett (nx t m p) < 5 ∧ p < m := by
      have hlt : nx t m p ≠ -1 := fun z => by
        rw [z] at c0
        exact c0 (by decide)
      refine ⟨?_, nx_lt rfl hlt⟩
      unfold lett
      repeat' split
      all_goals omega
    rw [ifn c0, ifn c0, bnd_mk, ifp (show 0 ≤ lett (nx t m p) by omega)]
    have hR1 := hR.adv (q := p + 1) (by omega)
    have f1 : Fr cdC [1203] M (mset M 2 3 ((p + 1 : Nat) : Int)) := Fr.rf.set rfl
    generalize hM1 : mset M 2 3 ((p + 1 : Nat) : Int) = M1 at hR1 f1 ⊢
    rw [e_C_rel hn hR1]
    by_cases c1 : 60 ≤ nx t m (p + 1) ∧ nx t m (p + 1) ≤ 62
    · have hlt1 : p + 1 < m := nx_lt rfl (show nx t m (p + 1) ≠ -1 by omega)
      rw [ifp c1, ifp c1, bnd_mk]
      have hR2 := hR1.adv (q := p + 1 + 1) (by omega)
      have f2 : Fr cdC [1203] M (mset M1 2 3 ((p + 1 + 1 : Nat) : Int)) := f1.set rfl
      generalize hM2 : mset M1 2 3 ((p + 1 + 1 : Nat) : Int) = M2 at hR2 f2 ⊢
      obtain ⟨M3, q3, k1, k2, k3, k4, k5⟩ := e_C_readNumber hn hR2 false
      have k1' : f_C_readNumber n 0 M2 = _ := k1
      have hge := sNum_ge (t := t) (m := m) false (p + 2)
      have e2 : sNum t m false (p + 1 + 1) = sNum t m false (p + 2) := rfl
      rw [e2] at k1' k2 k5
      have f3 := f2.trans k4
      unfold f_C_readTest_21
      rw [ifp (by omega), k1', bnd_mk]
      rcases hsn : sNum t m false (p + 2) with ⟨qq, r⟩
      rw [hsn] at k2 k5 hge
      have k2' : q3 = qq := k2
      rw [k2'] at k3
      unfold f_C_readTest_35
      cases r with
      | none =>
        rw [ifn (show ¬ (0 : Int) ≤ (none : Option Int).getD (-1) by decide)]
        exact ⟨⟨fun _ => ⟨M3, rfl, k3, f3.mono (by decide), fun i _ => f3 37 i rfl⟩, fun c hc => by cases hc⟩, fun c hc => by cases hc⟩
      | some v =>
        have hv := k5 v rfl
        have hqq : p + 2 < qq := hge.2 rfl
        have he3 : M3 2 11 = (e : Int) := (f3 2 11 rfl).trans he
        have ew : w32 (w32 (w32 (lett (nx t m p) * 3000) + w32 ((nx t m (p + 1) - 60) * 1000)) + v) = lett (nx t m p) * 3000 + (nx t m (p + 1) - 60) * 1000 + v := by
          rw [w32_s (x := lett (nx t m p) * 3000) (by omega) (by omega), w32_s (x := (nx t m (p + 1) - 60) * 1000) (by omega) (by omega), w32_s (x := lett (nx t m p) * 3000 + (nx t m (p + 1) - 60) * 1000) (by omega) (by omega), w32_s (by omega) (by omega)]
        have k31 := k3.1
        obtain ⟨M4, z1, z2, z3⟩ := e_C_put (n := n) he3 (by omega) (lett (nx t m p) * 3000 + (nx t m (p + 1) - 60) * 1000 + v)
        have eg : (some v).getD (-1) = v := rfl
        rw [eg, ifp hv.1, ew, z1, bnd_mk]
        refine ⟨⟨fun h => (by cases h), fun c hc => ?_⟩, fun c hc => by show p < qq; omega⟩
        cases hc
        refine ⟨M4, rfl, k3.fr z2 rfl rfl rfl, (f3.mono (by decide)).trans (z2.mono (by decide)), ⟨z3.1, fun i hi => (z3.2.1 i hi).trans (f3 37 i rfl), z3.2.2⟩, by show 1 + p ≤ qq; omega, k31.2⟩
    · rw [ifn c1, ifn c1, bnd_mk]
      unfold f_C_readTest_21 f_C_readTest_35
      rw [ifn (by decide), ifn (by decide)]
      exact ⟨⟨fun _ => ⟨M1, rfl, hR1, f1.mono (by decide), fun i _ => f1 37 i rfl⟩, fun c hc => by cases hc⟩, fun c hc => by cases hc⟩
end
