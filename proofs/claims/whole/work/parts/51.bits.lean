/-! Bits of ints and longs. -/
def bI (x : Int) (h : Nat) : Bool := (Int32.ofInt x).toBitVec.getLsbD h
def bL (x : Int) (h : Nat) : Bool := (Int64.ofInt x).toBitVec.getLsbD h
theorem bI_and (x y : Int) (h : Nat) : bI (ian x y) h = (bI x h && bI y h) := by
  unfold bI ian
  rw [Int32.ofInt_toInt]
  exact BitVec.getLsbD_and
theorem bI_or (x y : Int) (h : Nat) : bI (ior x y) h = (bI x h || bI y h) := by
  unfold bI ior
  rw [Int32.ofInt_toInt]
  exact BitVec.getLsbD_or
theorem bI_xor (x y : Int) (h : Nat) : bI (ixo x y) h = (bI x h ^^ bI y h) := by
  unfold bI ixo
  rw [Int32.ofInt_toInt]
  exact BitVec.getLsbD_xor
theorem bL_and (x y : Int) (h : Nat) : bL (lan x y) h = (bL x h && bL y h) := by
  unfold bL lan
  rw [Int64.ofInt_toInt]
  exact BitVec.getLsbD_and
theorem bL_or (x y : Int) (h : Nat) : bL (lor x y) h = (bL x h || bL y h) := by
  unfold bL lor
  rw [Int64.ofInt_toInt]
  exact BitVec.getLsbD_or
theorem bL_xor (x y : Int) (h : Nat) : bL (lxo x y) h = (bL x h ^^ bL y h) := by
  unfold bL lxo
  rw [Int64.ofInt_toInt]
  exact BitVec.getLsbD_xor
theorem sh_k32 : ∀ k : Nat, k < 32 → ((Int32.ofInt (k : Int) &&& 31).toBitVec.smod 32) = BitVec.ofNat 32 k := by decide +kernel
theorem sh_k64 : ∀ k : Nat, k < 64 → (((Int32.ofInt (k : Int)).toInt64 &&& 63).toBitVec.smod 64) = BitVec.ofNat 64 k := by decide +kernel
theorem bI_sh {k : Nat} (hk : k < 32) (x : Int) (h : Nat) : bI (ish x k) h = (decide (h < 32) && !decide (h < k) && bI x (h - k)) := by
  unfold bI ish
  rw [Int32.ofInt_toInt]
  show ((Int32.ofInt x).toBitVec <<< ((Int32.ofInt (k : Int) &&& 31).toBitVec.smod 32)).getLsbD h = _
  rw [sh_k32 k hk, BitVec.shiftLeft_eq', BitVec.toNat_ofNat, Nat.mod_eq_of_lt (by omega), BitVec.getLsbD_shiftLeft]
theorem bI_sr {k : Nat} (hk : k < 32) (x : Int) {h : Nat} (hh : h + k < 32) : bI (isr x k) h = bI x (k + h) := by
  unfold bI isr
  rw [Int32.ofInt_toInt]
  show (BitVec.sshiftRight' (Int32.ofInt x).toBitVec ((Int32.ofInt (k : Int) &&& 31).toBitVec.smod 32)).getLsbD h = _
  rw [sh_k32 k hk, BitVec.getLsbD_sshiftRight', BitVec.toNat_ofNat, Nat.mod_eq_of_lt (by omega)]
  rw [if_pos (show k + h < 32 by omega)]
  simp
  omega
theorem bL_sh {k : Nat} (hk : k < 64) (x : Int) (h : Nat) : bL (lsh x k) h = (decide (h < 64) && !decide (h < k) && bL x (h - k)) := by
  unfold bL lsh
  rw [Int64.ofInt_toInt]
  show ((Int64.ofInt x).toBitVec <<< (((Int32.ofInt (k : Int)).toInt64 &&& 63).toBitVec.smod 64)).getLsbD h = _
  rw [sh_k64 k hk, BitVec.shiftLeft_eq', BitVec.toNat_ofNat, Nat.mod_eq_of_lt (by omega), BitVec.getLsbD_shiftLeft]
theorem bL_sr {k : Nat} (hk : k < 64) (x : Int) {h : Nat} (hh : h + k < 64) : bL (lsr x k) h = bL x (k + h) := by
  unfold bL lsr
  rw [Int64.ofInt_toInt]
  show (BitVec.sshiftRight' (Int64.ofInt x).toBitVec (((Int32.ofInt (k : Int)).toInt64 &&& 63).toBitVec.smod 64)).getLsbD h = _
  rw [sh_k64 k hk, BitVec.getLsbD_sshiftRight', BitVec.toNat_ofNat, Nat.mod_eq_of_lt (by omega)]
  rw [if_pos (show k + h < 64 by omega)]
  simp
  omega
theorem bI_nat (m h : Nat) : bI (m : Int) h = (decide (h < 32) && m.testBit h) := by
  unfold bI
  show (BitVec.ofInt 32 (m : Int)).getLsbD h = _
  rw [BitVec.ofInt_natCast, BitVec.getLsbD_ofNat]
theorem bL_nat (m h : Nat) : bL (m : Int) h = (decide (h < 64) && m.testBit h) := by
  unfold bL
  show (BitVec.ofInt 64 (m : Int)).getLsbD h = _
  rw [BitVec.ofInt_natCast, BitVec.getLsbD_ofNat]
theorem bI_0 (h : Nat) : bI 0 h = false := by
  have := bI_nat 0 h
  rw [Nat.zero_testBit, Bool.and_false] at this
  exact this
theorem bL_0 (h : Nat) : bL 0 h = false := by
  have := bL_nat 0 h
  rw [Nat.zero_testBit, Bool.and_false] at this
  exact this
theorem bI_1 (h : Nat) : bI 1 h = decide (h = 0) := by
  have := bI_nat 1 h
  rw [show ((1 : Nat) : Int) = 1 from rfl] at this
  rw [this]
  cases h with
  | zero => rfl
  | succ h => simp [Nat.testBit_succ]
theorem bL_1 (h : Nat) : bL 1 h = decide (h = 0) := by
  have := bL_nat 1 h
  rw [show ((1 : Nat) : Int) = 1 from rfl] at this
  rw [this]
  cases h with
  | zero => rfl
  | succ h => simp [Nat.testBit_succ]
theorem bI_m1 {h : Nat} (hh : h < 32) : bI (-1) h = true := by
  have : ∀ h : Nat, h < 32 → bI (-1) h = true := by decide +kernel
  exact this h hh
theorem bI_ge {x : Int} {h : Nat} (hh : 32 ≤ h) : bI x h = false := BitVec.getLsbD_of_ge _ _ hh
theorem bL_ge {x : Int} {h : Nat} (hh : 64 ≤ h) : bL x h = false := BitVec.getLsbD_of_ge _ _ hh
/-- one bit set -/
theorem bI_bit {k : Nat} (hk : k < 32) (h : Nat) : bI (ish 1 k) h = decide (h = k) := by
  rw [bI_sh hk, bI_1]
  by_cases e : h = k
  · subst e; simp [hk]
  · have : ¬ (h < 32 ∧ ¬ h < k ∧ h - k = 0) := by omega
    by_cases h1 : h < 32 <;> by_cases h2 : h < k <;> by_cases h3 : h - k = 0 <;> (simp_all <;> omega)
theorem bL_bit {k : Nat} (hk : k < 64) (h : Nat) : bL (lsh 1 k) h = decide (h = k) := by
  rw [bL_sh hk, bL_1]
  by_cases e : h = k
  · subst e; simp [hk]
  · have : ¬ (h < 64 ∧ ¬ h < k ∧ h - k = 0) := by omega
    by_cases h1 : h < 64 <;> by_cases h2 : h < k <;> by_cases h3 : h - k = 0 <;> (simp_all <;> omega)
theorem bI_ext {x y : Int} (hx : inR x) (hy : inR y) (h : ∀ k, k < 32 → bI x k = bI y k) : x = y := by
  have h1 : (Int32.ofInt x).toBitVec = (Int32.ofInt y).toBitVec := BitVec.eq_of_getLsbD_eq fun i hi => h i hi
  have h2 : Int32.ofInt x = Int32.ofInt y := Int32.toBitVec_inj.mp h1
  exact (i32_eq hx hy).mp h2
theorem bL_ext {x y : Int} (hx : in64 x) (hy : in64 y) (h : ∀ k, k < 64 → bL x k = bL y k) : x = y := by
  have h1 : (Int64.ofInt x).toBitVec = (Int64.ofInt y).toBitVec := BitVec.eq_of_getLsbD_eq fun i hi => h i hi
  have h2 : Int64.ofInt x = Int64.ofInt y := Int64.toBitVec_inj.mp h1
  exact (i64_eq hx hy).mp h2
/-- 'x >> k & 1' -/
theorem bit_I {k : Nat} (hk : k < 32) (x : Int) : ian (isr x k) 1 = if bI x k then 1 else 0 := by
  apply bI_ext (ir_an _ _)
  · split <;> (unfold inR; decide)
  · intro h hh
    rw [bI_and, bI_1]
    by_cases e : h = 0
    · subst e
      rw [bI_sr hk x (by omega)]
      simp
      cases hb : bI x k <;> simp [bI_0, bI_1]
    · simp [e]
      cases hb : bI x k <;> simp [bI_0, bI_1, e]
theorem bit_L {k : Nat} (hk : k < 64) (x : Int) : lan (lsr x k) 1 = if bL x k then 1 else 0 := by
  apply bL_ext (lr_an _ _)
  · split <;> (unfold in64; decide)
  · intro h hh
    rw [bL_and, bL_1]
    by_cases e : h = 0
    · subst e
      rw [bL_sr hk x (by omega)]
      simp
      cases hb : bL x k <;> simp [bL_0, bL_1]
    · simp [e]
      cases hb : bL x k <;> simp [bL_0, bL_1, e]
/-- an int's value out of its low bits -/
theorem bI_low {x : Int} (hx : inR x) {k : Nat} (hk : k < 32) (h : ∀ i, k ≤ i → i < 32 → bI x i = false) : 0 ≤ x ∧ x < (2 : Int) ^ k := by
  have h1 : (Int32.ofInt x).toBitVec.toNat < 2 ^ k := by
    apply Nat.lt_pow_two_of_testBit
    intro i hi
    rw [BitVec.testBit_toNat]
    by_cases e : i < 32
    · exact h i hi e
    · exact BitVec.getLsbD_of_ge _ _ (by omega)
  have h2 : (2 : Nat) ^ k ≤ 2 ^ 31 := Nat.pow_le_pow_right (by decide) (by omega)
  have h3 : (Int32.ofInt x).toInt = ((Int32.ofInt x).toBitVec.toNat : Int) := by
    show (Int32.ofInt x).toBitVec.toInt = _
    rw [BitVec.toInt_eq_toNat_cond]
    rw [if_pos (by omega)]
  have h4 : x = ((Int32.ofInt x).toBitVec.toNat : Int) := by rw [← h3]; exact (t_i32 hx).symm
  have h5 : (((2 : Nat) ^ k : Nat) : Int) = (2 : Int) ^ k := by simp
  omega
theorem bI_hi {x : Int} {k : Nat} (h0 : 0 ≤ x) (h1 : x < (2 : Int) ^ k) {i : Nat} (hi : k ≤ i) : bI x i = false := by
  obtain ⟨m, rfl⟩ := Int.eq_ofNat_of_zero_le h0
  rw [bI_nat]
  have h2 : m < 2 ^ k := by
    have h5 : (((2 : Nat) ^ k : Nat) : Int) = (2 : Int) ^ k := by simp
    omega
  have h3 : m < 2 ^ i := Nat.lt_of_lt_of_le h2 (Nat.pow_le_pow_right (by decide) hi)
  rw [Nat.testBit_lt_two_pow h3, Bool.and_false]
theorem p2_k : ∀ k : Nat, k < 31 → ish 1 (k : Int) = (2 : Int) ^ k := by decide +kernel
theorem bI_eq0 {x : Int} (hx : inR x) : x = 0 ↔ ∀ k, k < 32 → bI x k = false := by
  constructor
  · rintro rfl k _; exact bI_0 k
  · intro h
    refine bI_ext hx ir_0 fun k hk => ?_
    rw [h k hk, bI_0]
