/-! found(..): the class's count. -/
theorem nbc_0 : ∀ a : Nat, a < 64 → ∀ b : Nat, b < 64 → nbc (4096 * 0 + (64 * a + b)) = pc16 (4096 * 0 + (64 * a + b)) := by decide +kernel
theorem nbc_1 : ∀ a : Nat, a < 64 → ∀ b : Nat, b < 64 → nbc (4096 * 1 + (64 * a + b)) = pc16 (4096 * 1 + (64 * a + b)) := by decide +kernel
theorem nbc_2 : ∀ a : Nat, a < 64 → ∀ b : Nat, b < 64 → nbc (4096 * 2 + (64 * a + b)) = pc16 (4096 * 2 + (64 * a + b)) := by decide +kernel
theorem nbc_3 : ∀ a : Nat, a < 64 → ∀ b : Nat, b < 64 → nbc (4096 * 3 + (64 * a + b)) = pc16 (4096 * 3 + (64 * a + b)) := by decide +kernel
theorem nbc_4 : ∀ a : Nat, a < 64 → ∀ b : Nat, b < 64 → nbc (4096 * 4 + (64 * a + b)) = pc16 (4096 * 4 + (64 * a + b)) := by decide +kernel
theorem nbc_5 : ∀ a : Nat, a < 64 → ∀ b : Nat, b < 64 → nbc (4096 * 5 + (64 * a + b)) = pc16 (4096 * 5 + (64 * a + b)) := by decide +kernel
theorem nbc_6 : ∀ a : Nat, a < 64 → ∀ b : Nat, b < 64 → nbc (4096 * 6 + (64 * a + b)) = pc16 (4096 * 6 + (64 * a + b)) := by decide +kernel
theorem nbc_7 : ∀ a : Nat, a < 64 → ∀ b : Nat, b < 64 → nbc (4096 * 7 + (64 * a + b)) = pc16 (4096 * 7 + (64 * a + b)) := by decide +kernel
theorem nbc_8 : ∀ a : Nat, a < 64 → ∀ b : Nat, b < 64 → nbc (4096 * 8 + (64 * a + b)) = pc16 (4096 * 8 + (64 * a + b)) := by decide +kernel
theorem nbc_9 : ∀ a : Nat, a < 64 → ∀ b : Nat, b < 64 → nbc (4096 * 9 + (64 * a + b)) = pc16 (4096 * 9 + (64 * a + b)) := by decide +kernel
theorem nbc_10 : ∀ a : Nat, a < 64 → ∀ b : Nat, b < 64 → nbc (4096 * 10 + (64 * a + b)) = pc16 (4096 * 10 + (64 * a + b)) := by decide +kernel
theorem nbc_11 : ∀ a : Nat, a < 64 → ∀ b : Nat, b < 64 → nbc (4096 * 11 + (64 * a + b)) = pc16 (4096 * 11 + (64 * a + b)) := by decide +kernel
theorem nbc_12 : ∀ a : Nat, a < 64 → ∀ b : Nat, b < 64 → nbc (4096 * 12 + (64 * a + b)) = pc16 (4096 * 12 + (64 * a + b)) := by decide +kernel
theorem nbc_13 : ∀ a : Nat, a < 64 → ∀ b : Nat, b < 64 → nbc (4096 * 13 + (64 * a + b)) = pc16 (4096 * 13 + (64 * a + b)) := by decide +kernel
theorem nbc_14 : ∀ a : Nat, a < 64 → ∀ b : Nat, b < 64 → nbc (4096 * 14 + (64 * a + b)) = pc16 (4096 * 14 + (64 * a + b)) := by decide +kernel
theorem nbc_15 : ∀ a : Nat, a < 64 → ∀ b : Nat, b < 64 → nbc (4096 * 15 + (64 * a + b)) = pc16 (4096 * 15 + (64 * a + b)) := by decide +kernel
theorem nbc_a (c : Nat) (hc : c < 16) : ∀ a : Nat, a < 64 → ∀ b : Nat, b < 64 → nbc (4096 * c + (64 * a + b)) = pc16 (4096 * c + (64 * a + b)) := by
  rcases Nat.eq_or_lt_of_le (show 0 ≤ c by omega) with e | e
  · rw [← e]; exact nbc_0
  rcases Nat.eq_or_lt_of_le (show 1 ≤ c by omega) with e | e
  · rw [← e]; exact nbc_1
  rcases Nat.eq_or_lt_of_le (show 2 ≤ c by omega) with e | e
  · rw [← e]; exact nbc_2
  rcases Nat.eq_or_lt_of_le (show 3 ≤ c by omega) with e | e
  · rw [← e]; exact nbc_3
  rcases Nat.eq_or_lt_of_le (show 4 ≤ c by omega) with e | e
  · rw [← e]; exact nbc_4
  rcases Nat.eq_or_lt_of_le (show 5 ≤ c by omega) with e | e
  · rw [← e]; exact nbc_5
  rcases Nat.eq_or_lt_of_le (show 6 ≤ c by omega) with e | e
  · rw [← e]; exact nbc_6
  rcases Nat.eq_or_lt_of_le (show 7 ≤ c by omega) with e | e
  · rw [← e]; exact nbc_7
  rcases Nat.eq_or_lt_of_le (show 8 ≤ c by omega) with e | e
  · rw [← e]; exact nbc_8
  rcases Nat.eq_or_lt_of_le (show 9 ≤ c by omega) with e | e
  · rw [← e]; exact nbc_9
  rcases Nat.eq_or_lt_of_le (show 10 ≤ c by omega) with e | e
  · rw [← e]; exact nbc_10
  rcases Nat.eq_or_lt_of_le (show 11 ≤ c by omega) with e | e
  · rw [← e]; exact nbc_11
  rcases Nat.eq_or_lt_of_le (show 12 ≤ c by omega) with e | e
  · rw [← e]; exact nbc_12
  rcases Nat.eq_or_lt_of_le (show 13 ≤ c by omega) with e | e
  · rw [← e]; exact nbc_13
  rcases Nat.eq_or_lt_of_le (show 14 ≤ c by omega) with e | e
  · rw [← e]; exact nbc_14
  rcases Nat.eq_or_lt_of_le (show 15 ≤ c by omega) with e | e
  · rw [← e]; exact nbc_15
  omega
theorem e_bitCount16 (n : Nat) (M : Mm) {m : Nat} (hm : m < 65536) : f_JI_bitCount n m M = some ((pc16 m : Int), M) := by
  rw [e_bitC n M hm, two256 (p := fun m => nbc m = pc16 m) nbc_a hm]
section
variable {σ : Mm} {M N : Mm} {z : Int}
theorem q_W_found (n : Nat) (hn : 3000 ≤ n) (hI : Inv σ) (hC : RelC M σ) (z : Int) : lp_W_found_21 n n z 0 0 0 M = some ((cn (σ 0 1).toNat (gLB σ z) : Int), M) := by
  have bh := hI.1.2.1
  have m11 := hC.1.2.1
  have m17 := hC.1.2.2.2.2.2.1
  have go : ∀ (k p g : Nat) (seen : Int), p + k = (σ 0 1).toNat → k < g → inR seen → (∀ i, i < 32 → (bI seen i = true ↔ ∃ q : Nat, q < p ∧ isP (σ 1) q = true ∧ cnx σ z q i)) → lp_W_found_21 n g z (cn p (gLB σ z)) seen p M = some ((cn (σ 0 1).toNat (gLB σ z) : Int), M) := by
    intro k
    induction k with
    | zero =>
      intro p g seen hp hg hs hb
      obtain ⟨g', rfl, _⟩ := f_pos hg
      have e : p = (σ 0 1).toNat := by omega
      subst e
      show f_W_found_21 n (lp_W_found_21 n g') z _ seen _ M = _
      unfold f_W_found_21
      rw [ifp (by rw [m11]; omega)]
    | succ k ih =>
      intro p g seen hp hg hs hb
      obtain ⟨g', rfl, hg'⟩ := f_pos hg
      have hcn := cn_le (gLB σ z) p
      show f_W_found_21 n (lp_W_found_21 n g') z _ seen _ M = _
      unfold f_W_found_21 f_W_found_83 f_W_found_85
      rw [ifn (by rw [m11]; omega), e_R_isPerson n M p (by omega), bnd_mk, m11, m17, Int.toNat_natCast, bit_I (by omega), w_succ (show p < 2000000000 by omega)]
      have skip : gLB σ z p = false → (∀ i, cnx σ z p i → isP (σ 1) p = true → ∃ q : Nat, q < p ∧ isP (σ 1) q = true ∧ cnx σ z q i) → lp_W_found_21 n g' z (cn p (gLB σ z)) seen ((p + 1 : Nat) : Int) M = some ((cn (σ 0 1).toNat (gLB σ z) : Int), M) := fun h1 h2 => by
        have := ih (p + 1) g' seen (by omega) hg' hs fun i hi => (hb i hi).trans ⟨fun ⟨q, q1, q2, q3⟩ => ⟨q, by omega, q2, q3⟩, fun ⟨q, q1, q2, q3⟩ => by
          by_cases e : q = p
          · rw [e] at q2 q3; exact h2 i q3 q2
          · exact ⟨q, by omega, q2, q3⟩⟩
        rw [cn_f h1] at this
        exact this
      by_cases hP : σ 1 p = 2 ∨ σ 1 p = 3
      · have hPb : isP (σ 1) p = true := decide_eq_true hP
        rw [ifp (show 0 ≤ (p : Int) ∧ (p : Int) < σ 0 1 ∧ (σ 1 p = 2 ∨ σ 1 p = 3) from ⟨by omega, by omega, hP⟩), i1]
        by_cases hse : bI seen p = true
        · rw [ifp hse, ifp (show (1 : Int) ≠ 0 by decide)]
          obtain ⟨q, q1, q2, q3⟩ := (hb p (by omega)).mp hse
          refine skip ?_ fun i hi _ => ⟨q, q1, q2, cnx_tr q3 hi⟩
          cases c : gLB σ z p with
          | false => rfl
          | true =>
            have := (gLB_t.mp c).2 q (cnx_sy q3)
            omega
        · rw [ifn hse, ifn (show ¬ (0 : Int) ≠ 0 by decide)]
          obtain ⟨y, y1, y2, y3⟩ := e_W_asOneWith n hn hI hC z (p := p) (by omega) hPb
          have hlow := bI_low y2 (k := 16) (by omega) (fun i h1 h2 => by
            cases c : bI y i with
            | false => rfl
            | true =>
              rcases cnx_in ((y3 i).mp c) with e | e
              · omega
              · have := e.2.1; omega)
          obtain ⟨m, rfl⟩ := nat_of hlow.1
          have hm : m < 65536 := by have : (2 : Int) ^ 16 = 65536 := by decide
                                    omega
          have hbits : ∀ i, i < 16 → m.testBit i = bI (m : Int) i := fun i hi => by rw [bI_nat, decide_eq_true (show i < 32 by omega), Bool.true_and]
          rw [y1, bnd_mk, e_bitCount16 n M hm, bnd_mk]
          have hpm : pc16 m ≤ 16 := cn_le _ 16
          have hlst : ∀ o, cnx σ z p o → p ≤ o := fun o ho => Classical.byContradiction fun q => by
            rcases cnx_in ho with e | e
            · omega
            · exact hse ((hb p (by omega)).mpr ⟨o, by omega, e.2.2, cnx_sy ho⟩)
          have hseen : ∀ i, i < 32 → (bI (ior seen m) i = true ↔ ∃ q : Nat, q < p + 1 ∧ isP (σ 1) q = true ∧ cnx σ z q i) := fun i hi => by
            rw [bI_or, Bool.or_eq_true, hb i hi, y3 i]
            exact ⟨fun w => by
              rcases w with ⟨q, q1, q2, q3⟩ | w
              · exact ⟨q, by omega, q2, q3⟩
              · exact ⟨p, by omega, hPb, w⟩, fun ⟨q, q1, q2, q3⟩ => by
              by_cases e : q = p
              · rw [e] at q3; exact Or.inr q3
              · exact Or.inl ⟨q, by omega, q2, q3⟩⟩
          have I := ih (p + 1) g' (ior seen m) (by omega) hg' (ir_or _ _) hseen
          by_cases c : gLst σ z p
          · rw [cn_t (gLB_t.mpr c)] at I
            obtain ⟨o, o1, o2⟩ := c.1
            have ho16 : o < 16 := by
              rcases cnx_in o2 with e | e
              · exact absurd e o1
              · have := e.2.1; omega
            have h2 : 2 ≤ pc16 m := cn_two (p := fun i => m.testBit i) (i := o) (j := p) ho16 (by omega) o1 (by show m.testBit o = true; rw [hbits o ho16]; exact (y3 o).mpr o2) (by show m.testBit p = true; rw [hbits p (by omega)]; exact (y3 p).mpr (cnx_rf p))
            rw [ifn (by omega), w32_s (by omega) (by omega)]
            exact I
          · rw [cn_f (show gLB σ z p = false by cases q : gLB σ z p with | false => rfl | true => exact absurd (gLB_t.mp q) c)] at I
            have h1 : pc16 m ≤ 1 := by
              have e1 : pc16 m = cn 16 (fun i => decide (i < 16) && m.testBit i) := cn_congr fun i hi => by rw [decide_eq_true hi, Bool.true_and]
              rw [e1]
              refine cn_one (i := p) fun x hx => ?_
              rw [Bool.and_eq_true, decide_eq_true_eq] at hx
              have hx2 := hx.2
              rw [hbits x hx.1] at hx2
              exact Classical.byContradiction fun q => c ⟨⟨x, q, (y3 x).mp hx2⟩, hlst⟩
            rw [ifp (by omega), w32_s (by omega) (by omega), Int.add_zero]
            exact I
      · rw [ifn (show ¬ (0 ≤ (p : Int) ∧ (p : Int) < σ 0 1 ∧ (σ 1 p = 2 ∨ σ 1 p = 3)) from fun q => hP q.2.2), i0]
        have hPf : isP (σ 1) p = false := decide_eq_false hP
        refine skip ?_ fun i _ q => by rw [hPf] at q; cases q
        cases c : gLB σ z p with
        | false => rfl
        | true =>
          obtain ⟨⟨o, o1, o2⟩, _⟩ := gLB_t.mp c
          rcases cnx_in o2 with e | e
          · exact absurd e o1
          · rw [hPf] at e; cases e.1
  exact go (σ 0 1).toNat 0 n 0 (by omega) (by omega) ir_0 (fun i _ => by
    rw [bI_0]
    exact ⟨fun q => (by cases q), fun ⟨q, q1, _⟩ => absurd q1 (Nat.not_lt_zero q)⟩)
end
