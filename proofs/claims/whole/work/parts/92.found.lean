/-! found(..): groups of persons who vote as one. -/
section
variable {σ : Mm} {M N : Mm} {z : Int}
/-- a and b vote as one, directly -/
def vas (σ : Mm) (z : Int) (a b : Nat) : Prop := (a : Int) < σ 0 1 ∧ (b : Int) < σ 0 1 ∧ a ≠ b ∧ isP (σ 1) a = true ∧ isP (σ 1) b = true ∧ z ≤ tms σ a b ∧ tmp σ a b ≤ 0
theorem tms_sym (a b : Nat) : tms σ a b = tms σ b a := sm_congr fun m _ => by
  unfold tA
  rw [Bool.and_comm (bI (σ 40 m) a), Bool.and_comm (bI (σ 41 m) a)]
theorem tmp_sym (a b : Nat) : tmp σ a b = tmp σ b a := sm_congr fun m _ => by
  unfold tP
  rw [Bool.and_comm (bI (σ 40 m) a), Bool.and_comm (bI (σ 41 m) a), Bool.or_comm]
theorem tmp_nn (a b : Nat) : 0 ≤ tmp σ a b := sm_nn fun j _ => (tP_b σ a b j).1
theorem vas_sym {a b : Nat} (h : vas σ z a b) : vas σ z b a := ⟨h.2.1, h.1, fun e => h.2.2.1 e.symm, h.2.2.2.2.1, h.2.2.2.1, by rw [tms_sym]; exact h.2.2.2.2.2.1, by rw [tmp_sym]; exact h.2.2.2.2.2.2⟩
/-- through others too -/
def cnx (σ : Mm) (z : Int) (a b : Nat) : Prop := ∀ S : Nat → Prop, (∀ x y, vas σ z x y → S x → S y) → S a → S b
theorem cnx_rf (a : Nat) : cnx σ z a a := fun _ _ h => h
theorem cnx_tr {a b c : Nat} (h1 : cnx σ z a b) (h2 : cnx σ z b c) : cnx σ z a c := fun S hS h => h2 S hS (h1 S hS h)
theorem cnx_st {a b : Nat} (h : vas σ z a b) : cnx σ z a b := fun _ hS h1 => hS a b h h1
theorem cnx_sy {a b : Nat} (h : cnx σ z a b) : cnx σ z b a := h (fun y => cnx σ z y a) (fun _ _ hv hx => cnx_tr (cnx_st (vas_sym hv)) hx) (cnx_rf a)
theorem cnx_in {a b : Nat} (h : cnx σ z a b) : b = a ∨ (isP (σ 1) a = true ∧ (b : Int) < σ 0 1 ∧ isP (σ 1) b = true) :=
  h (fun y => y = a ∨ (isP (σ 1) a = true ∧ (y : Int) < σ 0 1 ∧ isP (σ 1) y = true)) (fun x y hv hx => by
    rcases hx with hx | hx
    · subst hx; exact Or.inr ⟨hv.2.2.2.1, hv.2.1, hv.2.2.2.2.1⟩
    · exact Or.inr ⟨hx.1, hv.2.1, hv.2.2.2.2.1⟩) (Or.inl rfl)
/-- the least of a group of more than one -/
def gLst (σ : Mm) (z : Int) (h : Nat) : Prop := (∃ o, o ≠ h ∧ cnx σ z h o) ∧ ∀ o, cnx σ z h o → h ≤ o
noncomputable def gLB (σ : Mm) (z : Int) (h : Nat) : Bool := @decide (gLst σ z h) (Classical.propDecidable _)
theorem gLB_t {h : Nat} : gLB σ z h = true ↔ gLst σ z h := by
  unfold gLB
  exact @decide_eq_true_iff _ (Classical.propDecidable _)
theorem cn_no : ∀ k : Nat, cn k (fun _ => false) = 0
  | 0 => rfl
  | k + 1 => by rw [cn_f rfl]; exact cn_no k
theorem cn_two {p : Nat → Bool} {i j k : Nat} (hi : i < k) (hj : j < k) (h : i ≠ j) (pi : p i = true) (pj : p j = true) : 2 ≤ cn k p := by
  have h1 := cn_less (p := fun x => decide (x = i)) (q := p) (fun x hx => by rw [of_decide_eq_true hx]; exact pi) hj (decide_eq_false (fun e => h e.symm)) pj
  have h2 := cn_less (p := fun _ => false) (q := fun x => decide (x = i)) (fun x hx => by cases hx) hi rfl (decide_eq_true rfl)
  omega
theorem cn_one {p : Nat → Bool} {k i : Nat} (h : ∀ x, p x = true → x = i) : cn k p ≤ 1 := by
  have h1 := cn_imp (p := p) (q := fun x => decide (x = i)) (fun x hx => decide_eq_true (h x hx)) k
  have h2 := cn_upd (p := fun _ => false) (q := fun x => decide (x = i)) (x := i) rfl (decide_eq_true rfl) (fun x hx => decide_eq_false hx) k
  have h3 := cn_no k
  rw [h3] at h2
  split at h2 <;> omega
/-- whom the class adds -/
def agB (σ : Mm) (z : Int) (set : Int) (a b : Nat) : Bool := (!bI set b && isP (σ 1) b) && (decide (tmp σ a b ≤ 0) && decide (z ≤ tms σ a b))
theorem e_W_agreeingWith (n : Nat) (hn : 3000 ≤ n) (hI : Inv σ) (hC : RelC M σ) (z set : Int) {a : Nat} (ha : a < 16) : ∃ v, f_W_agreeingWith n a z set M = some (v, M) ∧ inR v ∧ ∀ i, i < 32 → bI v i = (decide ((i : Int) < σ 0 1) && agB σ z set a i) := by
  have bh := hI.1.2.1
  have m11 := hC.1.2.1
  have m17 := hC.1.2.2.2.2.2.1
  have go : ∀ (k b g : Nat) (x : Int), b + k = (σ 0 1).toNat → k < g → inR x → (∀ i, i < 32 → bI x i = (decide (i < b) && agB σ z set a i)) → ∃ v, lp_W_agreeingWith_6 n g a z set x b M = some (v, M) ∧ inR v ∧ ∀ i, i < 32 → bI v i = (decide ((i : Int) < σ 0 1) && agB σ z set a i) := by
    intro k
    induction k with
    | zero =>
      intro b g x hb hg hx hP
      obtain ⟨g', rfl, _⟩ := f_pos hg
      show ∃ v, f_W_agreeingWith_6 n (lp_W_agreeingWith_6 n g') a z set x b M = _ ∧ _
      unfold f_W_agreeingWith_6
      rw [ifp (by rw [m11]; omega)]
      refine ⟨x, rfl, hx, fun i hi => ?_⟩
      rw [hP i hi]
      by_cases c : i < b
      · rw [decide_eq_true c, decide_eq_true (show (i : Int) < σ 0 1 by omega)]
      · rw [decide_eq_false c, decide_eq_false (show ¬ (i : Int) < σ 0 1 by omega)]
    | succ k ih =>
      intro b g x hb hg hx hP
      obtain ⟨g', rfl, hg'⟩ := f_pos hg
      show ∃ v, f_W_agreeingWith_6 n (lp_W_agreeingWith_6 n g') a z set x b M = _ ∧ _
      have skip : agB σ z set a b = false → ∃ v, lp_W_agreeingWith_6 n g' a z set x ((b + 1 : Nat) : Int) M = some (v, M) ∧ inR v ∧ ∀ i, i < 32 → bI v i = (decide ((i : Int) < σ 0 1) && agB σ z set a i) := fun q => ih (b + 1) g' x (by omega) hg' hx fun i hi => by
        rw [hP i hi]
        by_cases e : i = b
        · rw [e, q, Bool.and_false, Bool.and_false]
        · by_cases e2 : i < b
          · rw [decide_eq_true e2, decide_eq_true (show i < b + 1 by omega)]
          · rw [decide_eq_false e2, decide_eq_false (show ¬ i < b + 1 by omega)]
      have hnn := tmp_nn (σ := σ) a b
      unfold f_W_agreeingWith_6 f_W_agreeingWith_69
      rw [ifn (by rw [m11]; omega), bit_I (by omega), e_R_isPerson n M b (by omega), w_succ (by omega), m11, m17, Int.toNat_natCast]
      cases h1 : bI set b with
      | true =>
        rw [ifp rfl, ifp (by decide)]
        exact skip (by unfold agB; rw [h1]; rfl)
      | false =>
        rw [ifn (show ¬ false = true by decide), ifn (show ¬ (0 : Int) ≠ 0 by decide), bnd_mk]
        by_cases h2 : σ 1 b = 2 ∨ σ 1 b = 3
        · rw [ifp (show 0 ≤ (b : Int) ∧ (b : Int) < σ 0 1 ∧ (σ 1 b = 2 ∨ σ 1 b = 3) from ⟨by omega, by omega, h2⟩), i1, e_W_timesApart n (by omega) hI hC ha (show b < 16 by omega), bnd_mk]
          by_cases h3 : tmp σ a b = 0
          · rw [ifn (fun q => q h3), e_W_timesAlike n (by omega) hI hC ha (show b < 16 by omega), bnd_mk]
            by_cases h4 : tms σ a b < z
            · rw [ifp h4]
              exact skip (by unfold agB; rw [decide_eq_false (show ¬ z ≤ tms σ a b by omega)]; simp)
            · rw [ifn h4]
              have ht : agB σ z set a b = true := by
                unfold agB isP
                rw [h1, decide_eq_true h2, decide_eq_true (show tmp σ a b ≤ 0 by omega), decide_eq_true (show z ≤ tms σ a b by omega)]; rfl
              refine ih (b + 1) g' (ior x (ish 1 b)) (by omega) hg' (ir_or _ _) fun i hi => ?_
              rw [bI_or, bI_bit (by omega), hP i hi]
              by_cases e : i = b
              · rw [e, ht, decide_eq_true (show b < b + 1 by omega), decide_eq_true rfl]; simp
              · rw [decide_eq_false e, Bool.or_false]
                by_cases e2 : i < b
                · rw [decide_eq_true e2, decide_eq_true (show i < b + 1 by omega)]
                · rw [decide_eq_false e2, decide_eq_false (show ¬ i < b + 1 by omega)]
          · rw [ifp h3]
            exact skip (by unfold agB; rw [decide_eq_false (show ¬ tmp σ a b ≤ 0 by omega)]; simp)
        · rw [ifn (show ¬ (0 ≤ (b : Int) ∧ (b : Int) < σ 0 1 ∧ (σ 1 b = 2 ∨ σ 1 b = 3)) from fun q => h2 q.2.2), i0]
          exact skip (by unfold agB isP; rw [decide_eq_false h2]; simp)
  exact go (σ 0 1).toNat 0 n 0 (by omega) (by omega) ir_0 (fun i _ => by rw [bI_0]; rfl)
theorem l_W_asOne37 (n : Nat) (hn : 3000 ≤ n) (hI : Inv σ) (hC : RelC M σ) (z : Int) (p : Nat) (k10 : Int → Int → Int → Int → Mm → Rr) (s0 ask : Int) (rd : Nat) (hrd : rd < 100) (hask : ∀ i, bI ask i = true → bI s0 i = true) (hs0 : ∀ i, bI s0 i = true → cnx σ z p i ∧ isP (σ 1) i = true) : ∀ (k a g : Nat) (x : Int), a + k = (σ 0 1).toNat → k < g → inR x → (∀ i, bI s0 i = true → bI x i = true) → (∀ i, bI x i = true → cnx σ z p i ∧ isP (σ 1) i = true) → (∀ i, i < a → bI ask i = true → ∀ j, vas σ z i j → bI x j = true) → ∃ y, lp_W_asOneWith_37 n k10 g z x s0 rd ask a M = k10 z y s0 ((rd + 1 : Nat) : Int) M ∧ inR y ∧ (∀ i, bI s0 i = true → bI y i = true) ∧ (∀ i, bI y i = true → cnx σ z p i ∧ isP (σ 1) i = true) ∧ (∀ i, bI ask i = true → ∀ j, vas σ z i j → bI y j = true) := by
  have bh := hI.1.2.1
  have m11 := hC.1.2.1
  intro k
  induction k with
  | zero =>
    intro a g x ha hg hx h1 h2 h3
    obtain ⟨g', rfl, _⟩ := f_pos hg
    show ∃ y, f_W_asOneWith_37 n k10 (lp_W_asOneWith_37 n k10 g') z x s0 rd ask a M = _ ∧ _
    unfold f_W_asOneWith_37
    rw [ifp (by rw [m11]; omega), w_succ (by omega)]
    exact ⟨x, rfl, hx, h1, h2, fun i hi j hv => h3 i (by have := hv.1; omega) hi j hv⟩
  | succ k ih =>
    intro a g x ha hg hx h1 h2 h3
    obtain ⟨g', rfl, hg'⟩ := f_pos hg
    show ∃ y, f_W_asOneWith_37 n k10 (lp_W_asOneWith_37 n k10 g') z x s0 rd ask a M = _ ∧ _
    unfold f_W_asOneWith_37 f_W_asOneWith_71
    rw [ifn (by rw [m11]; omega), bit_I (by omega), w_succ (by omega)]
    cases hb : bI ask a with
    | false =>
      rw [ifn (show ¬ false = true by decide), ifp (show (0 : Int) ≠ 1 by decide)]
      exact ih (a + 1) g' x (by omega) hg' hx h1 h2 fun i hi hk => h3 i (by
        by_cases e : i = a
        · rw [e, hb] at hk; cases hk
        · omega) hk
    | true =>
      rw [ifp rfl, ifn (by decide)]
      obtain ⟨v, v1, v2, v3⟩ := e_W_agreeingWith n hn hI hC z x (a := a) (by omega)
      rw [v1, bnd_mk]
      have ha2 := h2 a (h1 a (hask a hb))
      refine ih (a + 1) g' (ior x v) (by omega) hg' (ir_or _ _) (fun i hi => by rw [bI_or, h1 i hi]; rfl) (fun i hi => ?_) fun i hi hk j hv => ?_
      · rw [bI_or] at hi
        cases hx1 : bI x i with
        | true => exact h2 i hx1
        | false =>
          rw [hx1, Bool.false_or] at hi
          have hi32 : i < 32 := Classical.byContradiction fun q => by rw [bI_ge (by omega)] at hi; cases hi
          rw [v3 i hi32] at hi
          unfold agB at hi
          simp only [Bool.and_eq_true, decide_eq_true_eq, Bool.not_eq_true'] at hi
          obtain ⟨i1, ⟨i2, i3⟩, i4, i5⟩ := hi
          have hne : a ≠ i := fun e => by rw [← e, h1 a (hask a hb)] at i2; cases i2
          exact ⟨cnx_tr ha2.1 (cnx_st ⟨by omega, i1, hne, ha2.2, i3, i5, i4⟩), i3⟩
      · by_cases e : i = a
        · subst e
          rw [bI_or]
          cases hx1 : bI x j with
          | true => rfl
          | false =>
            rw [Bool.false_or, v3 j (by have := hv.2.1; omega)]
            unfold agB
            rw [decide_eq_true hv.2.1, hx1, hv.2.2.2.2.1, decide_eq_true hv.2.2.2.2.2.2, decide_eq_true hv.2.2.2.2.2.1]; rfl
        · rw [bI_or, h3 i (by omega) hk j hv]; rfl
theorem e_W_asOneWith (n : Nat) (hn : 3000 ≤ n) (hI : Inv σ) (hC : RelC M σ) (z : Int) {p : Nat} (hp : (p : Int) < σ 0 1) (hP : isP (σ 1) p = true) : ∃ y, f_W_asOneWith n p z M = some (y, M) ∧ inR y ∧ ∀ i, bI y i = true ↔ cnx σ z p i := by
  have bh := hI.1.2.1
  have fin : ∀ x : Int, bI x p = true → (∀ i, bI x i = true → cnx σ z p i ∧ isP (σ 1) i = true) → (∀ i, bI x i = true → ∀ j, vas σ z i j → bI x j = true) → ∀ i, bI x i = true ↔ cnx σ z p i := fun x h1 h2 h3 i => ⟨fun q => (h2 i q).1, fun q => q (fun y => bI x y = true) (fun a b hv ha => h3 a ha b hv) h1⟩
  have lt16 : ∀ x : Int, (∀ i, bI x i = true → cnx σ z p i ∧ isP (σ 1) i = true) → ∀ i, bI x i = true → i < 16 := fun x h2 i hi => by
    rcases cnx_in (h2 i hi).1 with e | e
    · omega
    · have := e.2.1; omega
  have go : ∀ (k rd g : Nat) (x s : Int), rd + k = 16 → k < g → inR x → inR s → bI x p = true → (∀ i, bI s i = true → bI x i = true) → (∀ i, bI x i = true → cnx σ z p i ∧ isP (σ 1) i = true) → (∀ i, bI s i = true → ∀ j, vas σ z i j → bI x j = true) → rd ≤ cn 16 (bI s) → ∃ y, lp_W_asOneWith_10 n g z x s rd M = some (y, M) ∧ inR y ∧ ∀ i, bI y i = true ↔ cnx σ z p i := by
    intro k
    induction k with
    | zero =>
      intro rd g x s hr hg hx hs h1 h2 h3 h4 h5
      obtain ⟨g', rfl, _⟩ := f_pos hg
      show ∃ y, f_W_asOneWith_10 n (lp_W_asOneWith_10 n g') z x s rd M = _ ∧ _
      unfold f_W_asOneWith_10
      rw [ifp (by omega)]
      refine ⟨x, rfl, hx, fin x h1 h3 fun i hi j hv => ?_⟩
      have hj := hv.2.1
      have := cn_full (p := bI s) (q := fun _ => true) (fun _ _ => rfl) (k := 16) (by have := cn_le (fun _ => true) 16; omega) (x := j) (by omega) rfl
      exact h2 j this
    | succ k ih =>
      intro rd g x s hr hg hx hs h1 h2 h3 h4 h5
      obtain ⟨g', rfl, hg'⟩ := f_pos hg
      show ∃ y, f_W_asOneWith_10 n (lp_W_asOneWith_10 n g') z x s rd M = _ ∧ _
      unfold f_W_asOneWith_10
      rw [ifn (by omega)]
      by_cases e : s = x
      · rw [ifp e]
        refine ⟨x, rfl, hx, fin x h1 h3 fun i hi j hv => h4 i (by rw [e]; exact hi) j hv⟩
      · rw [ifn e]
        obtain ⟨y, y1, y2, y3, y4, y5⟩ := l_W_asOne37 n hn hI hC z p (lp_W_asOneWith_10 n g') x (ian x (ixo s (-1))) rd (by omega) (fun i hi => by rw [bI_and] at hi; simp at hi; exact hi.1) h3 (σ 0 1).toNat 0 n x (by omega) (by omega) hx (fun _ q => q) h3 (fun i hi => absurd hi (Nat.not_lt_zero i))
        have y1' : lp_W_asOneWith_37 n (lp_W_asOneWith_10 n g') n z x x rd (ian x (ixo s (-1))) 0 M = _ := y1
        rw [y1']
        refine ih (rd + 1) g' y x (by omega) hg' y2 hx (y3 p h1) y3 y4 (fun i hi j hv => ?_) ?_
        · by_cases c : bI s i = true
          · exact y3 j (h4 i c j hv)
          · refine y5 i ?_ j hv
            have hi16 := lt16 x h3 i hi
            rw [bI_and, hi, bI_xor, bI_m1 (by omega), show bI s i = false by simpa using c]; rfl
        · have hex : ∃ i, i < 32 ∧ bI s i ≠ bI x i := Classical.byContradiction fun q => e (bI_ext hs hx fun i hi => Classical.byContradiction fun w => q ⟨i, hi, w⟩)
          obtain ⟨i, i1, i2⟩ := hex
          have hxi : bI x i = true := by
            cases c : bI x i with
            | true => rfl
            | false =>
              cases c2 : bI s i with
              | true => rw [h2 i c2] at c; cases c
              | false => rw [c, c2] at i2; exact absurd rfl i2
          have hsi : bI s i = false := by
            cases c2 : bI s i with
            | true => rw [hxi, c2] at i2; exact absurd rfl i2
            | false => rfl
          have := cn_less h2 (lt16 x h3 i hxi) hsi hxi
          omega
  have b := fun i => bI_bit (k := p) (by omega) i
  exact go 16 0 n (ish 1 p) 0 rfl (by omega) (ir_sh _ _) ir_0 (by rw [b]; exact decide_eq_true rfl) (fun i hi => by rw [bI_0] at hi; cases hi) (fun i hi => by rw [b] at hi; rw [of_decide_eq_true hi]; exact ⟨cnx_rf p, hP⟩) (fun i hi => by rw [bI_0] at hi; cases hi) (Nat.zero_le _)
end
