/-! Which text is in force. -/
def CL (σ : Mm) (k : Nat) : List Cl := ((sGo (tx0 (σ 14) k) (σ 15 k).toNat 6 0).2).getD []
def lwk (σ : Mm) (k w : Nat) : Int := lw (CL σ k) w (CL σ k).length
/-- the text in force among the first j, or -1 -/
def bst (σ : Mm) (f : Int) (w : Nat) (d : Int) : Nat → Int
  | 0 => -1
  | j + 1 => if σ 12 j = f ∧ σ 13 j ≤ d ∧ (bst σ f w d j < 0 ∨ σ 13 (bst σ f w d j).toNat ≤ σ 13 j) ∧ 0 ≤ lwk σ j w then (j : Int) else bst σ f w d j
def kk (σ : Mm) (f : Int) (w : Nat) (d : Int) : Int := bst σ f w d (σ 0 18).toNat
def cC (σ : Mm) (f : Int) (w : Nat) (d : Int) : Cl := cAt (CL σ (kk σ f w d).toNat) (lwk σ (kk σ f w d).toNat w).toNat
def ic (σ : Mm) (f : Int) (w : Nat) (d : Int) : Int := if kk σ f w d < 0 then -1 else 6 * kk σ f w d + lwk σ (kk σ f w d).toNat w
def d1 (w : Nat) : Int := if w = 0 then 1 else if w = 3 then -5 else 999
def d2 (w : Nat) : Int := if w = 0 then 2 else 1
def fi (σ : Mm) (f : Int) (w : Nat) (d : Int) : Int := if kk σ f w d < 0 then d1 w else (cC σ f w d).2.1
def se (σ : Mm) (f : Int) (w : Nat) (d : Int) : Int := if kk σ f w d < 0 then d2 w else (cC σ f w d).2.2.1
def slp (σ : Mm) (f : Int) (d : Int) (φ : Nat → Int) : Bool := if kk σ f 4 d < 0 then false else evB φ (cC σ f 4 d).2.2.2
theorem lw_in (l : List Cl) (w : Nat) : ∀ k : Nat, -1 ≤ lw l w k ∧ lw l w k < k ∧ (0 ≤ lw l w k → (cAt l (lw l w k).toNat).1 = w)
  | 0 => ⟨by show (-1 : Int) ≤ -1; decide, by show (-1 : Int) < 0; decide, fun h => absurd (show (0 : Int) ≤ -1 from h) (by decide)⟩
  | k + 1 => by
    have ih := lw_in l w k
    unfold lw
    by_cases c : (cAt l k).1 = w
    · rw [ifp c]; exact ⟨by omega, by omega, fun _ => by rw [Int.toNat_natCast]; exact c⟩
    · rw [ifn c]; exact ⟨ih.1, by omega, ih.2.2⟩
theorem bst_in (σ : Mm) (f : Int) (w : Nat) (d : Int) : ∀ j : Nat, -1 ≤ bst σ f w d j ∧ bst σ f w d j < j ∧ (0 ≤ bst σ f w d j → 0 ≤ lwk σ (bst σ f w d j).toNat w)
  | 0 => ⟨by show (-1 : Int) ≤ -1; decide, by show (-1 : Int) < 0; decide, fun h => absurd (show (0 : Int) ≤ -1 from h) (by decide)⟩
  | j + 1 => by
    have ih := bst_in σ f w d j
    unfold bst
    by_cases c : σ 12 j = f ∧ σ 13 j ≤ d ∧ (bst σ f w d j < 0 ∨ σ 13 (bst σ f w d j).toNat ≤ σ 13 j) ∧ 0 ≤ lwk σ j w
    · rw [ifp c]; exact ⟨by omega, by omega, fun _ => by rw [Int.toNat_natCast]; exact c.2.2.2⟩
    · rw [ifn c]; exact ⟨ih.1, by omega, ih.2.2⟩
theorem CL_eq {σ : Mm} {k q : Nat} {l : List Cl} (h : sGo (tx0 (σ 14) k) (σ 15 k).toNat 6 0 = (q, some l)) : CL σ k = l := by unfold CL; rw [h]; rfl
section
variable {M σ : Mm}
/-- the class's table of a text -/
theorem cl_tab (hC : RelC M σ) {k : Nat} (hk : (k : Int) < σ 0 18) : M 33 k = ((CL σ k).length : Int) ∧ (CL σ k).length ≤ 6 ∧ ∀ i, i < (CL σ k).length → ClR (M 34) (M 35) (M 36) (M 37) (6 * k + i) (cAt (CL σ k) i) := by
  obtain ⟨q, l, h1, h2, h3, h4⟩ := hC.2.2.1.2.2.2.2.2 k hk
  rw [CL_eq h1]
  exact ⟨h2, h3, h4⟩
theorem e_C_lastOf (n : Nat) (hn : 200 ≤ n) (hI : Inv σ) (hC : RelC M σ) {k : Nat} (hk : (k : Int) < σ 0 18) {w : Nat} (hw : w < 5) : f_C_lastOf n k w M = some (if lwk σ k w < 0 then -1 else 6 * k + lwk σ k w, M) := by
  have b := hI.2.2.1.1
  obtain ⟨t1, t2, t3⟩ := cl_tab hC hk
  have go : ∀ (i f : Nat), i ≤ (CL σ k).length → i < f → lp_C_lastOf_9 n f k w ((i : Int) - 1) M = some (if lw (CL σ k) w i < 0 then -1 else 6 * k + lw (CL σ k) w i, M) := by
    intro i
    induction i with
    | zero =>
      intro f hi hf
      obtain ⟨f', rfl, hf'⟩ := f_pos hf
      show f_C_lastOf_9 n (lp_C_lastOf_9 n f') k w _ M = _
      unfold f_C_lastOf_9
      rw [ifp (by omega)]
      rfl
    | succ i ih =>
      intro f hi hf
      obtain ⟨f', rfl, hf'⟩ := f_pos hf
      show f_C_lastOf_9 n (lp_C_lastOf_9 n f') k w _ M = _
      obtain ⟨c1, c2, c3, c4⟩ := t3 i (by omega)
      unfold f_C_lastOf_9
      rw [ifn (by omega), w32_s (x := (k : Int) * 6) (by omega) (by omega), w32_s (x := (k : Int) * 6 + _) (by omega) (by omega), ckp (by omega), show ((k : Int) * 6 + (((i + 1 : Nat) : Int) - 1)).toNat = 6 * k + i by omega, c1]
      have e : lw (CL σ k) w (i + 1) = if (cAt (CL σ k) i).1 = w then (i : Int) else lw (CL σ k) w i := rfl
      by_cases c : (cAt (CL σ k) i).1 = w
      · rw [ifn (by omega), e, ifp c, ifn (by omega)]
        congr 2; omega
      · rw [ifp (by omega), e, ifn c, w32_s (by omega) (by omega), show ((i + 1 : Nat) : Int) - 1 + -1 = (i : Int) - 1 by omega]
        exact ih f' (by omega) hf'
  unfold f_C_lastOf
  rw [ckp (by omega), Int.toNat_natCast, t1, w32_s (by omega) (by omega)]
  exact go _ n (Nat.le_refl _) (by omega)
theorem e_C_inForce (n : Nat) (hn : 200 ≤ n) (hI : Inv σ) (hC : RelC M σ) (f : Int) {w : Nat} (hw : w < 5) (d : Int) : f_C_inForce n f w d M = some (ic σ f w d, M) := by
  have b := hI.2.2.1.1
  have hT := hI.2.2.1.2.2.2
  obtain ⟨u1, u2, u3, u4, u5, u6⟩ := hC.2.2.1
  have go : ∀ (r j g : Nat), j + r = (σ 0 18).toNat → r < g → lp_C_inForce_9 n g f w d (if bst σ f w d j < 0 then -1 else 6 * bst σ f w d j + lwk σ (bst σ f w d j).toNat w) (if bst σ f w d j < 0 then -1 else σ 13 (bst σ f w d j).toNat) j M = some (ic σ f w d, M) := by
    intro r
    induction r with
    | zero =>
      intro j g hj hg
      obtain ⟨g', rfl, hg'⟩ := f_pos hg
      show f_C_inForce_9 n (lp_C_inForce_9 n g') f w d _ _ j M = _
      unfold f_C_inForce_9
      rw [ifp (by rw [u1]; omega)]
      unfold ic kk
      rw [show j = (σ 0 18).toNat by omega]
    | succ r ih =>
      intro j g hj hg
      obtain ⟨g', rfl, hg'⟩ := f_pos hg
      show f_C_inForce_9 n (lp_C_inForce_9 n g') f w d _ _ j M = _
      have bi := bst_in σ f w d j
      have e : bst σ f w d (j + 1) = if σ 12 j = f ∧ σ 13 j ≤ d ∧ (bst σ f w d j < 0 ∨ σ 13 (bst σ f w d j).toNat ≤ σ 13 j) ∧ 0 ≤ lwk σ j w then (j : Int) else bst σ f w d j := rfl
      have I := ih (j + 1) g' (by omega) hg'
      unfold f_C_inForce_9 f_C_inForce_79
      simp only [ckp (show (0 : Int) ≤ (j : Int) ∧ (j : Int) < 20 by omega), Int.toNat_natCast, u3, u4, e_C_lastOf n hn hI hC (show (j : Int) < σ 0 18 by omega) hw, bnd_mk, w_succ (show j < 2000000000 by omega)]
      rw [ifn (by rw [u1]; omega)]
      by_cases c1 : σ 12 j = f
      · rw [ifn (by simpa using c1)]
        by_cases c2 : σ 13 j ≤ d
        · rw [ifn (by omega)]
          have hj13 := (hT j (by omega)).1
          by_cases c3 : bst σ f w d j < 0 ∨ σ 13 (bst σ f w d j).toNat ≤ σ 13 j
          · rw [ifn (show ¬ (σ 13 j < if bst σ f w d j < 0 then -1 else σ 13 (bst σ f w d j).toNat) by split <;> omega)]
            by_cases c4 : 0 ≤ lwk σ j w
            · rw [ifn (show ¬ lwk σ j w < 0 by omega), ifn (by omega)]
              rw [e.trans (ifp ⟨c1, c2, c3, c4⟩), ifn (show ¬ (j : Int) < 0 by omega), ifn (show ¬ (j : Int) < 0 by omega), Int.toNat_natCast] at I
              exact I
            · rw [ifp (show lwk σ j w < 0 by omega), ifp (by decide)]
              rw [e.trans (ifn (fun q => c4 q.2.2.2))] at I
              exact I
          · rw [ifp (show (σ 13 j < if bst σ f w d j < 0 then -1 else σ 13 (bst σ f w d j).toNat) by rw [ifn (fun q => c3 (Or.inl q))]; omega)]
            rw [e.trans (ifn (fun q => c3 q.2.2.1))] at I
            exact I
        · rw [ifp (by omega)]
          rw [e.trans (ifn (fun q => c2 q.2.1))] at I
          exact I
      · rw [ifp c1]
        rw [e.trans (ifn (fun q => c1 q.1))] at I
        exact I
  exact go (σ 0 18).toNat 0 n (by omega) (by omega)
/-- the clause in force: its row in the class's table -/
theorem ic_row (hI : Inv σ) (hC : RelC M σ) (f : Int) (w : Nat) (d : Int) : (kk σ f w d < 0 ∧ ic σ f w d = -1) ∨ (0 ≤ kk σ f w d ∧ kk σ f w d < σ 0 18 ∧ 0 ≤ ic σ f w d ∧ ic σ f w d < 120 ∧ (cC σ f w d).1 = w ∧ ClR (M 34) (M 35) (M 36) (M 37) (ic σ f w d).toNat (cC σ f w d)) := by
  have b := hI.2.2.1.1
  have bi := bst_in σ f w d (σ 0 18).toNat
  have ed : kk σ f w d = bst σ f w d (σ 0 18).toNat := rfl
  rw [← ed] at bi
  unfold ic
  by_cases c : kk σ f w d < 0
  · rw [ifp c]; exact Or.inl ⟨c, rfl⟩
  · rw [ifn c]
    have hk : (((kk σ f w d).toNat : Nat) : Int) < σ 0 18 := by omega
    obtain ⟨t1, t2, t3⟩ := cl_tab hC hk
    have l1 := lw_in (CL σ (kk σ f w d).toNat) w (CL σ (kk σ f w d).toNat).length
    have l2 := bi.2.2 (by omega)
    have le : lwk σ (kk σ f w d).toNat w = lw (CL σ (kk σ f w d).toNat) w (CL σ (kk σ f w d).toNat).length := rfl
    rw [← le] at l1
    have t4 := t3 (lwk σ (kk σ f w d).toNat w).toNat (by omega)
    refine Or.inr ⟨by omega, by omega, by omega, by omega, l1.2.2 l2, ?_⟩
    rw [show (6 * kk σ f w d + lwk σ (kk σ f w d).toNat w).toNat = 6 * (kk σ f w d).toNat + (lwk σ (kk σ f w d).toNat w).toNat by omega]
    exact t4
theorem e_C_firstOf (n : Nat) (hI : Inv σ) (hC : RelC M σ) (f : Int) {w : Nat} (hw : w < 4) (d : Int) : f_C_firstOf n (ic σ f w d) w M = some (fi σ f w d, M) := by
  unfold f_C_firstOf fi d1
  rcases ic_row hI hC f w d with ⟨h1, h2⟩ | ⟨h1, h2, h3, h4, h5, h6⟩
  · rw [ifp (by omega), ifp h1]
    by_cases c : w = 0
    · rw [ifp (by omega), ifp c]
    · rw [ifn (by omega), ifn c]
      by_cases c3 : w = 3
      · rw [ifp (by omega), ifp c3]
      · rw [ifn (by omega), ifn c3]
  · rw [ifn (by omega), ifn (by omega), ckp (by omega), (h6.2.2.1 (by omega)).1]
theorem e_C_secondOf (n : Nat) (hI : Inv σ) (hC : RelC M σ) (f : Int) {w : Nat} (hw : w = 0 ∨ w = 2) (d : Int) : f_C_secondOf n (ic σ f w d) w M = some (se σ f w d, M) := by
  unfold f_C_secondOf se d2
  rcases ic_row hI hC f w d with ⟨h1, h2⟩ | ⟨h1, h2, h3, h4, h5, h6⟩
  · rw [ifp (by omega), ifp h1]
    by_cases c : w = 0
    · rw [ifn (by omega), ifp c]
    · rw [ifp (by omega), ifn c]
  · rw [ifn (by omega), ifn (by omega), ckp (by omega), (h6.2.2.1 (by omega)).2 (by omega)]
end
