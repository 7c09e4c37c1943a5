/-! What is read is sound: numbers in their bounds, code that runs in a low stack. -/
def hg : List Int → Nat → Option Nat
  | [], h => some h
  | op :: c, h => if 0 ≤ op then (if op < 15000 ∧ h < 31 then hg c (h + 1) else none) else if op = -3 then (if 1 ≤ h then hg c h else none) else if op = -2 ∨ op = -1 then (if 2 ≤ h then hg c (h - 1) else none) else none
theorem hg_app : ∀ (c c' : List Int) (h : Nat), hg (c ++ c') h = (hg c h).bind (hg c')
  | [], c', h => rfl
  | op :: c, c', h => by
    show hg (op :: (c ++ c')) h = _
    unfold hg
    split
    · split
      · exact hg_app c c' (h + 1)
      · rfl
    · split
      · split
        · exact hg_app c c' h
        · rfl
      · split
        · split
          · exact hg_app c c' (h - 1)
          · rfl
        · rfl
theorem hg_app1 {c c' : List Int} {h h1 : Nat} (e : hg c h = some h1) : hg (c ++ c') h = hg c' h1 := by rw [hg_app, e]; rfl
theorem hg_not {h : Nat} (hh : 1 ≤ h) (c : List Int) : hg ((-3) :: c) h = hg c h := by
  show (if (0 : Int) ≤ -3 then _ else if (-3 : Int) = -3 then (if 1 ≤ h then hg c h else none) else _) = _
  rw [ifn (by decide), ifp rfl, ifp hh]
theorem hg_or {h : Nat} (c : List Int) : hg ((-2) :: c) (h + 2) = hg c (h + 1) := by
  show (if (0 : Int) ≤ -2 then _ else if (-2 : Int) = -3 then _ else if (-2 : Int) = -2 ∨ (-2 : Int) = -1 then (if 2 ≤ h + 2 then hg c (h + 2 - 1) else none) else none) = _
  rw [ifn (by decide), ifn (by decide), ifp (by decide), ifp (by omega)]
  rfl
theorem hg_and {h : Nat} (c : List Int) : hg ((-1) :: c) (h + 2) = hg c (h + 1) := by
  show (if (0 : Int) ≤ -1 then _ else if (-1 : Int) = -3 then _ else if (-1 : Int) = -2 ∨ (-1 : Int) = -1 then (if 2 ≤ h + 2 then hg c (h + 2 - 1) else none) else none) = _
  rw [ifn (by decide), ifn (by decide), ifp (by decide), ifp (by omega)]
  rfl
theorem sNum_in {t : Nat → Int} {m : Nat} {ab : Bool} {p q : Nat} {v : Int} (h : sNum t m ab p = (q, some v)) : 0 ≤ v ∧ v ≤ 999 ∧ (ab = true → 1 ≤ v) ∧ p < q := by
  unfold sNum at h
  by_cases c1 : dg (nx t m p) = true
  · rw [if_pos c1] at h
    have d1 : 48 ≤ nx t m p ∧ nx t m p ≤ 57 := by simpa [dg] using c1
    by_cases c2 : dg (nx t m (p + 1)) = true
    · rw [if_pos c2] at h
      have d2 : 48 ≤ nx t m (p + 1) ∧ nx t m (p + 1) ≤ 57 := by simpa [dg] using c2
      by_cases c3 : dg (nx t m (p + 2)) = true
      · rw [if_pos c3] at h
        have d3 : 48 ≤ nx t m (p + 2) ∧ nx t m (p + 2) ≤ 57 := by simpa [dg] using c3
        by_cases c4 : (ab && decide (100 * (nx t m p - 48) + 10 * (nx t m (p + 1) - 48) + (nx t m (p + 2) - 48) = 0)) = true
        · rw [if_pos c4] at h; cases h
        · rw [if_neg c4] at h; cases h
          refine ⟨by omega, by omega, fun ha => ?_, by omega⟩
          subst ha; simp at c4; omega
      · rw [if_neg c3] at h
        by_cases c4 : (ab && decide (10 * (nx t m p - 48) + (nx t m (p + 1) - 48) = 0)) = true
        · rw [if_pos c4] at h; cases h
        · rw [if_neg c4] at h; cases h
          refine ⟨by omega, by omega, fun ha => ?_, by omega⟩
          subst ha; simp at c4; omega
    · rw [if_neg c2] at h
      by_cases c4 : (ab && decide (nx t m p - 48 = 0)) = true
      · rw [if_pos c4] at h; cases h
      · rw [if_neg c4] at h; cases h
        refine ⟨by omega, by omega, fun ha => ?_, by omega⟩
        subst ha; simp at c4; omega
  · rw [if_neg c1] at h; cases h
theorem lett_in (x : Int) : -1 ≤ lett x ∧ lett x ≤ 4 := by
  unfold lett
  repeat (split; · omega)
  omega
theorem sTest_in {t : Nat → Int} {m p q : Nat} {c : List Int} (h : sTest t m p = (q, some c)) : (∃ op, c = [op] ∧ 0 ≤ op ∧ op < 15000) ∧ p + 3 ≤ q := by
  unfold sTest at h
  have hl := lett_in (nx t m p)
  by_cases c1 : lett (nx t m p) < 0
  · rw [ifp c1] at h; cases h
  · rw [ifn c1] at h
    by_cases c2 : 60 ≤ nx t m (p + 1) ∧ nx t m (p + 1) ≤ 62
    · rw [ifp c2] at h
      cases e : sNum t m false (p + 2) with
      | mk q' o =>
        rw [e] at h
        cases o with
        | none => cases h
        | some v =>
          cases h
          have := sNum_in e
          exact ⟨⟨_, rfl, by omega, by omega⟩, by omega⟩
    · rw [ifn c2] at h; cases h
theorem sE_ok {t : Nat → Int} {m : Nat} : ∀ (f k d p q : Nat) (c : List Int), k ≤ 4 → d ≤ 4 → sE t m f k d p = (q, some c) → p ≤ q ∧ c.length ≤ q - p ∧
    (k = 0 → p < q ∧ ∀ h, h + 11 ≤ 31 + 2 * d → hg c h = some (h + 1)) ∧ (k = 1 → p < q ∧ ∀ h, h + 10 ≤ 31 + 2 * d → hg c h = some (h + 1)) ∧ (k = 2 → p < q ∧ ∀ h, h + 9 ≤ 31 + 2 * d → hg c h = some (h + 1)) ∧ (k = 3 → ∀ h, h + 11 ≤ 31 + 2 * d → hg c (h + 1) = some (h + 1)) ∧ (k = 4 → ∀ h, h + 10 ≤ 31 + 2 * d → hg c (h + 1) = some (h + 1)) := by
  intro f
  induction f with
  | zero => intro k d p q c _ _ h; cases h
  | succ f ih =>
    intro k d p q c hk hd h
    have hk2 : k = 0 ∨ k = 1 ∨ k = 2 ∨ k = 3 ∨ k = 4 := by omega
    rcases hk2 with rfl | rfl | rfl | rfl | rfl
    · rw [sE_0] at h
      cases e1 : sE t m f 1 d p with
      | mk q1 o1 =>
        rw [e1] at h
        cases o1 with
        | none => cases h
        | some c1 =>
          cases e2 : sE t m f 3 d q1 with
          | mk q2 o2 =>
            simp only [e2] at h
            cases o2 with
            | none => cases h
            | some c2 =>
              cases h
              have i1 := ih 1 d p q1 c1 (by decide) hd e1
              have i2 := ih 3 d q1 q c2 (by decide) hd e2
              refine ⟨by omega, by rw [List.length_append]; omega, fun _ => ⟨by have := (i1.2.2.2.1 rfl).1; omega, fun h hh => ?_⟩, by omega, by omega, by omega, by omega⟩
              rw [hg_app1 ((i1.2.2.2.1 rfl).2 h (by omega))]
              exact i2.2.2.2.2.2.1 rfl h hh
    · rw [sE_1] at h
      cases e1 : sE t m f 2 d p with
      | mk q1 o1 =>
        rw [e1] at h
        cases o1 with
        | none => cases h
        | some c1 =>
          cases e2 : sE t m f 4 d q1 with
          | mk q2 o2 =>
            simp only [e2] at h
            cases o2 with
            | none => cases h
            | some c2 =>
              cases h
              have i1 := ih 2 d p q1 c1 (by decide) hd e1
              have i2 := ih 4 d q1 q c2 (by decide) hd e2
              refine ⟨by omega, by rw [List.length_append]; omega, by omega, fun _ => ⟨by have := (i1.2.2.2.2.1 rfl).1; omega, fun h hh => ?_⟩, by omega, by omega, by omega⟩
              rw [hg_app1 ((i1.2.2.2.2.1 rfl).2 h (by omega))]
              exact i2.2.2.2.2.2.2 rfl h hh
    · rw [sE_2] at h
      by_cases c1 : d < 4 ∧ nx t m p = 33
      · rw [ifp c1] at h
        cases e1 : sE t m f 2 (d + 1) (p + 1) with
        | mk q1 o1 =>
          rw [e1] at h
          cases o1 with
          | none => cases h
          | some c2 =>
            cases h
            have i1 := ih 2 (d + 1) (p + 1) q c2 (by decide) (by omega) e1
            refine ⟨by omega, by rw [List.length_append]; simp; omega, by omega, by omega, fun _ => ⟨by omega, fun h hh => ?_⟩, by omega, by omega⟩
            rw [hg_app1 ((i1.2.2.2.2.1 rfl).2 h (by omega)), hg_not (by omega)]
            rfl
      · rw [ifn c1] at h
        by_cases c2 : d < 4 ∧ nx t m p = 40
        · rw [ifp c2] at h
          cases e1 : sE t m f 0 (d + 1) (p + 1) with
          | mk q1 o1 =>
            rw [e1] at h
            cases o1 with
            | none => cases h
            | some c3 =>
              simp only at h
              by_cases c4 : nx t m q1 = 41
              · rw [ifp c4] at h
                cases h
                have i1 := ih 0 (d + 1) (p + 1) q1 c (by decide) (by omega) e1
                refine ⟨by omega, by omega, by omega, by omega, fun _ => ⟨by omega, fun h hh => ?_⟩, by omega, by omega⟩
                exact (i1.2.2.1 rfl).2 h (by omega)
              · rw [ifn c4] at h; cases h
        · rw [ifn c2] at h
          obtain ⟨⟨op, rfl, o1, o2⟩, h2⟩ := sTest_in h
          refine ⟨by omega, by simp; omega, by omega, by omega, fun _ => ⟨by omega, fun h hh => ?_⟩, by omega, by omega⟩
          show (if 0 ≤ op then (if op < 15000 ∧ h < 31 then hg [] (h + 1) else none) else _) = _
          rw [ifp o1, ifp ⟨o2, by omega⟩]
          rfl
    · rw [sE_3] at h
      by_cases c1 : nx t m p = 124
      · rw [ifp c1] at h
        cases e1 : sE t m f 1 d (p + 1) with
        | mk q1 o1 =>
          rw [e1] at h
          cases o1 with
          | none => cases h
          | some c2 =>
            cases e2 : sE t m f 3 d q1 with
            | mk q2 o2 =>
              simp only [e2] at h
              cases o2 with
              | none => cases h
              | some c3 =>
                cases h
                have i1 := ih 1 d (p + 1) q1 c2 (by decide) hd e1
                have i2 := ih 3 d q1 q c3 (by decide) hd e2
                refine ⟨by omega, by rw [List.length_append]; simp; omega, by omega, by omega, by omega, fun _ h hh => ?_, by omega⟩
                rw [hg_app1 ((i1.2.2.2.1 rfl).2 (h + 1) (by omega)), hg_or]
                exact i2.2.2.2.2.2.1 rfl h hh
      · rw [ifn c1] at h
        cases h
        exact ⟨Nat.le_refl _, by simp, by omega, by omega, by omega, fun _ h _ => rfl, by omega⟩
    · rw [sE_4] at h
      by_cases c1 : nx t m p = 38
      · rw [ifp c1] at h
        cases e1 : sE t m f 2 d (p + 1) with
        | mk q1 o1 =>
          rw [e1] at h
          cases o1 with
          | none => cases h
          | some c2 =>
            cases e2 : sE t m f 4 d q1 with
            | mk q2 o2 =>
              simp only [e2] at h
              cases o2 with
              | none => cases h
              | some c3 =>
                cases h
                have i1 := ih 2 d (p + 1) q1 c2 (by decide) hd e1
                have i2 := ih 4 d q1 q c3 (by decide) hd e2
                refine ⟨by omega, by rw [List.length_append]; simp; omega, by omega, by omega, by omega, by omega, fun _ h hh => ?_⟩
                rw [hg_app1 ((i1.2.2.2.2.1 rfl).2 (h + 1) (by omega)), hg_and]
                exact i2.2.2.2.2.2.2 rfl h hh
      · rw [ifn c1] at h
        cases h
        exact ⟨Nat.le_refl _, by simp, by omega, by omega, by omega, by omega, fun _ h _ => rfl⟩
def okCl (c : Cl) : Prop := c.1 ≤ 4 ∧ (c.1 ≠ 4 → (0 ≤ c.2.1 ∧ c.2.1 ≤ 999) ∧ (c.1 = 0 → 1 ≤ c.2.2.1 ∧ c.2.2.1 ≤ 999) ∧ (c.1 = 2 → 0 ≤ c.2.2.1 ∧ c.2.2.1 ≤ 999)) ∧ (c.1 = 4 → hg c.2.2.2 0 = some 1)
theorem wOf_le (x : Int) : wOf x ≤ 4 := by
  unfold wOf
  repeat (split; · decide)
  decide
theorem sRest_ok {t : Nat → Int} {m w p q : Nat} {c : Cl} (hw : w ≤ 4) (h : sRest t m w p = (q, some c)) : okCl c ∧ p ≤ q ∧ c.1 = w ∧ c.2.2.2.length ≤ q - p := by
  unfold sRest at h
  by_cases c0 : w = 4
  · rw [ifp c0] at h
    cases e1 : sE t m 1000 0 0 p with
    | mk q1 o1 =>
      rw [e1] at h
      cases o1 with
      | none => cases h
      | some c1 =>
        cases h
        have i1 := sE_ok 1000 0 0 p q c1 (by decide) (by decide) e1
        exact ⟨⟨Nat.le_refl _, fun h => absurd rfl h, fun _ => (i1.2.2.1 rfl).2 0 (by decide)⟩, i1.1, c0.symm, i1.2.1⟩
  · rw [ifn c0] at h
    cases e1 : sNum t m false p with
    | mk q1 o1 =>
      rw [e1] at h
      cases o1 with
      | none => cases h
      | some v =>
        have n1 := sNum_in e1
        simp only at h
        by_cases c1 : w = 1 ∨ w = 3
        · rw [ifp c1] at h
          cases h
          exact ⟨⟨hw, fun _ => ⟨⟨n1.1, n1.2.1⟩, fun hh => by simp at hh; omega, fun hh => by simp at hh; omega⟩, fun hh => absurd hh c0⟩, by omega, rfl, by simp⟩
        · rw [ifn c1] at h
          by_cases c2 : nx t m q1 = 32
          · rw [ifp c2] at h
            cases e2 : sNum t m (decide (w = 0)) (q1 + 1) with
            | mk q2 o2 =>
              rw [e2] at h
              cases o2 with
              | none => cases h
              | some v2 =>
                cases h
                have n2 := sNum_in e2
                exact ⟨⟨hw, fun _ => ⟨⟨n1.1, n1.2.1⟩, fun hh => ⟨n2.2.2.1 (by simpa using hh), n2.2.1⟩, fun hh => ⟨n2.1, n2.2.1⟩⟩, fun hh => absurd hh c0⟩, by omega, rfl, by simp⟩
          · rw [ifn c2] at h; cases h
theorem sWord_ge {t : Nat → Int} {m : Nat} : ∀ {l : List Int} {p q : Nat} {b : Bool}, sWord t m l p = (q, b) → p ≤ q ∧ (b = true → q = p + l.length)
  | [], p, q, b, h => by cases h; exact ⟨Nat.le_refl _, fun _ => rfl⟩
  | c :: l, p, q, b, h => by
    unfold sWord at h
    by_cases e : nx t m p = c
    · rw [ifp e] at h
      have i := sWord_ge h
      exact ⟨by omega, fun hb => by rw [i.2 hb, List.length_cons]; omega⟩
    · rw [ifn e] at h
      cases h
      exact ⟨Nat.le_refl _, fun hb => by cases hb⟩
theorem sClause_ok {t : Nat → Int} {m p q : Nat} {c : Cl} (h : sClause t m p = (q, some c)) : okCl c ∧ p ≤ q ∧ c.2.2.2.length ≤ q - p := by
  unfold sClause at h
  cases e1 : sWord t m (wLet (wOf (nx t m p))) p with
  | mk q1 b =>
    rw [e1] at h
    cases b with
    | false => cases h
    | true =>
      have w := sWord_ge e1
      have r := sRest_ok (wOf_le _) h
      exact ⟨r.1, by omega, by omega⟩
theorem sGo_ok {t : Nat → Int} {m : Nat} : ∀ {k p q : Nat} {l : List Cl}, sGo t m k p = (q, some l) → (∀ i, i < l.length → okCl (cAt l i)) ∧ l.length ≤ k ∧ 1 ≤ l.length
  | 0, p, q, l, h => by cases h
  | k + 1, p, q, l, h => by
    unfold sGo at h
    cases e1 : sClause t m p with
    | mk q1 o1 =>
      rw [e1] at h
      cases o1 with
      | none => cases h
      | some c =>
        have r := sClause_ok e1
        simp only at h
        by_cases c1 : m ≤ q1
        · rw [ifp c1] at h
          cases h
          refine ⟨fun i hi => ?_, by simp, by simp⟩
          have : i = 0 := by simp at hi; omega
          subst this; exact r.1
        · rw [ifn c1] at h
          by_cases c2 : k = 0
          · rw [ifp c2] at h; cases h
          · rw [ifn c2] at h
            by_cases c3 : nx t m q1 = 59
            · rw [ifp c3] at h
              cases e2 : sGo t m k (q1 + 1) with
              | mk q2 o2 =>
                rw [e2] at h
                cases o2 with
                | none => cases h
                | some l2 =>
                  cases h
                  have i := sGo_ok e2
                  refine ⟨fun j hj => ?_, by simp; omega, by simp⟩
                  cases j with
                  | zero => exact r.1
                  | succ j =>
                    simp at hj
                    exact i.1 j hj
            · rw [ifn c3] at h; cases h
/-- bits by halves -/
theorem bI_half0 (y : Nat) (b : Bool) : bI ((2 * y + b.toNat : Nat) : Int) 0 = b := by
  rw [bI_nat, Nat.testBit_zero]
  cases b <;> simp <;> omega
theorem bI_halfS (y : Nat) (b : Bool) (h : Nat) (hh : h + 1 < 32) : bI ((2 * y + b.toNat : Nat) : Int) (h + 1) = bI (y : Int) h := by
  rw [bI_nat, bI_nat, Nat.testBit_succ, show (2 * y + b.toNat) / 2 = y by cases b <;> simp <;> omega]
  rw [decide_eq_true hh, decide_eq_true (show h < 32 by omega)]
theorem nat_ir {y : Nat} (h : y < 2147483648) : inR (y : Int) := ⟨by omega, by omega⟩
theorem btn (b : Bool) : b.toNat ≤ 1 := by cases b <;> decide
theorem st_push {y : Nat} (b : Bool) (h : y < 1073741824) : ior (ish (y : Int) 1) (b.toNat : Int) = ((2 * y + b.toNat : Nat) : Int) := by
  have hb := btn b
  refine bI_ext (ir_or _ _) (nat_ir (by omega)) fun k hk => ?_
  have hs := bI_sh (k := 1) (by decide) (y : Int) k
  rw [show ((1 : Nat) : Int) = 1 from rfl] at hs
  rw [bI_or, hs]
  cases k with
  | zero =>
    rw [bI_half0]
    have := bI_half0 0 b
    simp at this
    simp [this]
  | succ k =>
    rw [bI_halfS _ _ _ hk]
    have := bI_halfS 0 b k hk
    simp [bI_0] at this
    simp [this, show k + 1 < 32 from hk]
theorem st_low (y : Nat) (b : Bool) : ian ((2 * y + b.toNat : Nat) : Int) 1 = (b.toNat : Int) := by
  have hb := btn b
  refine bI_ext (ir_an _ _) (nat_ir (by omega)) fun k hk => ?_
  rw [bI_and, bI_1]
  cases k with
  | zero =>
    rw [bI_half0]
    have := bI_half0 0 b
    simp at this
    simp [this]
  | succ k =>
    have := bI_halfS 0 b k hk
    simp [bI_0] at this
    simp [this]
theorem st_half {y : Nat} (b : Bool) (h : y < 1073741824) : isr ((2 * y + b.toNat : Nat) : Int) 1 = (y : Int) := by
  have hb := btn b
  refine bI_ext (ir_sr _ _) (nat_ir (by omega)) fun k hk => ?_
  by_cases e : k + 1 < 32
  · have := bI_sr (k := 1) (by decide) ((2 * y + b.toNat : Nat) : Int) (h := k) e
    rw [show ((1 : Nat) : Int) = 1 from rfl] at this
    rw [this, Nat.add_comm 1 k, bI_halfS _ _ _ e]
  · have hk31 : k = 31 := by omega
    subst hk31
    have h1 : bI (y : Int) 31 = false := by
      rw [bI_nat]
      rw [Nat.testBit_lt_two_pow (by omega), Bool.and_false]
    rw [h1]
    have h2 : 2 * y + b.toNat < 2147483648 := by omega
    show (BitVec.getLsbD _ 31) = false
    unfold isr
    rw [Int32.ofInt_toInt]
    show (BitVec.sshiftRight' (Int32.ofInt ((2 * y + b.toNat : Nat) : Int)).toBitVec ((Int32.ofInt 1 &&& 31).toBitVec.smod 32)).getLsbD 31 = _
    have h3 := sh_k32 1 (by decide)
    rw [show ((1 : Nat) : Int) = 1 from rfl] at h3
    have hm : (Int32.ofInt ((2 * y + b.toNat : Nat) : Int)).toBitVec.msb = false := by
      show (BitVec.ofInt 32 ((2 * y + b.toNat : Nat) : Int)).msb = false
      rw [BitVec.ofInt_natCast, BitVec.msb_eq_decide, BitVec.toNat_ofNat, Nat.mod_eq_of_lt (by omega)]
      exact decide_eq_false (by omega)
    rw [h3, BitVec.getLsbD_sshiftRight', hm, BitVec.toNat_ofNat, Nat.mod_eq_of_lt (by decide), ifn (by decide), Bool.and_false]
theorem st_not {y : Nat} (b : Bool) (h : y < 1073741824) : ixo ((2 * y + b.toNat : Nat) : Int) 1 = ((2 * y + (!b).toNat : Nat) : Int) := by
  have hb := btn (!b)
  refine bI_ext (ir_xo _ _) (nat_ir (by omega)) fun k hk => ?_
  rw [bI_xor, bI_1]
  cases k with
  | zero => rw [bI_half0, bI_half0]; cases b <;> rfl
  | succ k => rw [bI_halfS _ _ _ hk, bI_halfS _ _ _ hk]; simp
theorem st_or {y : Nat} (a b : Bool) (h : y < 1073741824) : ior ((2 * y + a.toNat : Nat) : Int) (b.toNat : Int) = ((2 * y + (a || b).toNat : Nat) : Int) := by
  have hb := btn (a || b)
  refine bI_ext (ir_or _ _) (nat_ir (by omega)) fun k hk => ?_
  rw [bI_or]
  cases k with
  | zero =>
    rw [bI_half0, bI_half0]
    have := bI_half0 0 b
    simp at this
    simp [this]
  | succ k =>
    rw [bI_halfS _ _ _ hk, bI_halfS _ _ _ hk]
    have := bI_halfS 0 b k hk
    simp [bI_0] at this
    simp [this]
theorem st_and {y : Nat} (a b : Bool) (h : y < 1073741824) : ian ((2 * y + a.toNat : Nat) : Int) (ior (b.toNat : Int) (-2)) = ((2 * y + (a && b).toNat : Nat) : Int) := by
  have hb := btn (a && b)
  have hm2 : ∀ k : Nat, k < 32 → bI (-2) k = decide (k ≠ 0) := by decide +kernel
  refine bI_ext (ir_an _ _) (nat_ir (by omega)) fun k hk => ?_
  rw [bI_and, bI_or, hm2 k hk]
  cases k with
  | zero =>
    rw [bI_half0, bI_half0]
    have := bI_half0 0 b
    simp at this
    simp [this]
  | succ k =>
    rw [bI_halfS _ _ _ hk, bI_halfS _ _ _ hk]
    simp
theorem idv_nn {x y : Int} (hx : 0 ≤ x ∧ x ≤ 2147483647) (hy : 0 < y ∧ y ≤ 2147483647) : idv x y = x / y := by
  unfold idv
  rw [Int32.toInt_div]
  have h1 : (Int32.ofInt x).toInt = x := t_i32 ⟨by omega, by omega⟩
  have h2 : (Int32.ofInt y).toInt = y := t_i32 ⟨by omega, by omega⟩
  rw [h1, h2, Int.tdiv_eq_ediv_of_nonneg hx.1]
  have h3 : 0 ≤ x / y := Int.ediv_nonneg hx.1 (by omega)
  have h4 : x / y ≤ x := Int.ediv_le_self y hx.1
  rw [Int.bmod_eq_of_le (by omega) (by omega)]
theorem irm_nn {x y : Int} (hx : 0 ≤ x ∧ x ≤ 2147483647) (hy : 0 < y ∧ y ≤ 2147483647) : irm x y = x % y := by
  have h1 : Int32.ofInt x / Int32.ofInt y = Int32.ofInt (x / y) := by
    have := idv_nn hx hy
    unfold idv at this
    rw [← this, Int32.ofInt_toInt]
  have h3 : 0 ≤ x / y := Int.ediv_nonneg hx.1 (by omega)
  have h4 : x / y * y ≤ x := Int.ediv_mul_le x (by omega)
  have h5 : 0 ≤ x / y * y := Int.mul_nonneg h3 (by omega)
  have h6 : x - x / y * y = x % y := by
    have := Int.mul_ediv_add_emod x y
    rw [Int.mul_comm] at this
    omega
  unfold irm
  rw [h1]
  show (i32 x - i32 (x / y) * i32 y).toInt = _
  rw [i32_mul, i32_sub, w32_s (x := x / y * y) (by omega) (by omega), w32_s (by omega) (by omega), h6]
  have := Int.emod_nonneg x (show y ≠ 0 by omega)
  have := Int.emod_lt_of_pos x hy.1
  exact t_i32 ⟨by omega, by omega⟩
