/-! Integer.bitCount below 65536. -/
theorem ian_nat {a b : Nat} (ha : a < 2147483648) : ian (a : Int) (b : Int) = ((a &&& b : Nat) : Int) := by
  refine bI_ext (ir_an _ _) (ir_nat (Nat.lt_of_le_of_lt Nat.and_le_left ha)) fun k hk => ?_
  rw [bI_and, bI_nat, bI_nat, bI_nat, Nat.testBit_and, decide_eq_true hk]
  simp
theorem isu_a0 : ∀ k : Nat, k < 32 → (((Int32.ofInt (k : Int)).toUInt32 &&& Int32.toUInt32 31).toNat % 32) = k := by decide +kernel
theorem isu_nat {a : Nat} (ha : a < 2147483648) {k : Nat} (hk : k < 32) : isu (a : Int) (k : Int) = ((a >>> k : Nat) : Int) := by
  unfold isu
  have e1 : (Int32.ofInt (a : Int)).toUInt32.toNat = a := by
    show (BitVec.ofInt 32 (a : Int)).toNat = a
    rw [BitVec.toNat_ofInt]
    omega
  have e2 : ((Int32.ofInt (a : Int)).toUInt32 >>> ((Int32.ofInt (k : Int)).toUInt32 &&& Int32.toUInt32 31)).toNat = a >>> k := by
    rw [UInt32.toNat_shiftRight, e1, isu_a0 k hk]
  generalize ((Int32.ofInt (a : Int)).toUInt32 >>> ((Int32.ofInt (k : Int)).toUInt32 &&& Int32.toUInt32 31)) = u at e2
  have e3 : a >>> k ≤ a := by rw [Nat.shiftRight_eq_div_pow]; exact Nat.div_le_self _ _
  show u.toBitVec.toInt = _
  have e4 : u.toBitVec.toNat = a >>> k := e2
  rw [BitVec.toInt_eq_toNat_of_lt (by omega), e4]
def nb1 (x : Nat) : Nat := x - ((x >>> 1) &&& 1431655765)
def nb2 (x : Nat) : Nat := (x &&& 858993459) + ((x >>> 2) &&& 858993459)
def nb3 (x : Nat) : Nat := (x + (x >>> 4)) &&& 252645135
def nb4 (x : Nat) : Nat := x + (x >>> 8)
def nb5 (x : Nat) : Nat := (x + (x >>> 16)) &&& 63
theorem nb_1 {x : Nat} (h : x < 65536) : w32 ((x : Int) - ian (isu (x : Int) 1) 1431655765) = (nb1 x : Int) ∧ nb1 x < 65536 := by
  have e0 : isu (x : Int) 1 = ((x >>> 1 : Nat) : Int) := isu_nat (k := 1) (by omega) (by decide)
  have e3 : x >>> 1 ≤ x := by rw [Nat.shiftRight_eq_div_pow]; exact Nat.div_le_self _ _
  have e1 : ian ((x >>> 1 : Nat) : Int) 1431655765 = (((x >>> 1) &&& 1431655765 : Nat) : Int) := ian_nat (b := 1431655765) (by omega)
  have e2 : (x >>> 1) &&& 1431655765 ≤ x >>> 1 := Nat.and_le_left
  rw [e0, e1, w32_s (by omega) (by omega)]
  unfold nb1
  omega
theorem nb_2 {x : Nat} (h : x < 65536) : w32 (ian (x : Int) 858993459 + ian (isu (x : Int) 2) 858993459) = (nb2 x : Int) ∧ nb2 x < 131072 := by
  have e0 : isu (x : Int) 2 = ((x >>> 2 : Nat) : Int) := isu_nat (k := 2) (by omega) (by decide)
  have e3 : x >>> 2 ≤ x := by rw [Nat.shiftRight_eq_div_pow]; exact Nat.div_le_self _ _
  have e1 : ian ((x >>> 2 : Nat) : Int) 858993459 = (((x >>> 2) &&& 858993459 : Nat) : Int) := ian_nat (b := 858993459) (by omega)
  have e4 : ian (x : Int) 858993459 = ((x &&& 858993459 : Nat) : Int) := ian_nat (b := 858993459) (by omega)
  have e2 : (x >>> 2) &&& 858993459 ≤ x >>> 2 := Nat.and_le_left
  have e5 : x &&& 858993459 ≤ x := Nat.and_le_left
  rw [e0, e1, e4, w32_s (by omega) (by omega)]
  unfold nb2
  omega
theorem nb_3 {x : Nat} (h : x < 131072) : ian (w32 ((x : Int) + isu (x : Int) 4)) 252645135 = (nb3 x : Int) ∧ nb3 x < 262144 := by
  have e0 : isu (x : Int) 4 = ((x >>> 4 : Nat) : Int) := isu_nat (k := 4) (by omega) (by decide)
  have e3 : x >>> 4 ≤ x := by rw [Nat.shiftRight_eq_div_pow]; exact Nat.div_le_self _ _
  have e1 : ian ((x + (x >>> 4) : Nat) : Int) 252645135 = (((x + (x >>> 4)) &&& 252645135 : Nat) : Int) := ian_nat (b := 252645135) (by omega)
  have e2 : (x + (x >>> 4)) &&& 252645135 ≤ x + (x >>> 4) := Nat.and_le_left
  rw [e0, w32_s (by omega) (by omega), show (x : Int) + ((x >>> 4 : Nat) : Int) = ((x + (x >>> 4) : Nat) : Int) by omega, e1]
  unfold nb3
  omega
theorem nb_4 {x : Nat} (h : x < 262144) : w32 ((x : Int) + isu (x : Int) 8) = (nb4 x : Int) ∧ nb4 x < 524288 := by
  have e0 : isu (x : Int) 8 = ((x >>> 8 : Nat) : Int) := isu_nat (k := 8) (by omega) (by decide)
  have e3 : x >>> 8 ≤ x := by rw [Nat.shiftRight_eq_div_pow]; exact Nat.div_le_self _ _
  rw [e0, w32_s (by omega) (by omega)]
  unfold nb4
  omega
theorem nb_5 {x : Nat} (h : x < 524288) : ian (w32 ((x : Int) + isu (x : Int) 16)) 63 = (nb5 x : Int) := by
  have e0 : isu (x : Int) 16 = ((x >>> 16 : Nat) : Int) := isu_nat (k := 16) (by omega) (by decide)
  have e3 : x >>> 16 ≤ x := by rw [Nat.shiftRight_eq_div_pow]; exact Nat.div_le_self _ _
  have e1 : ian ((x + (x >>> 16) : Nat) : Int) 63 = (((x + (x >>> 16)) &&& 63 : Nat) : Int) := ian_nat (b := 63) (by omega)
  rw [e0, w32_s (by omega) (by omega), show (x : Int) + ((x >>> 16 : Nat) : Int) = ((x + (x >>> 16) : Nat) : Int) by omega, e1]
  rfl
def nbc (x : Nat) : Nat := nb5 (nb4 (nb3 (nb2 (nb1 x))))
theorem e_bitC (n : Nat) (M : Mm) {m : Nat} (hm : m < 65536) : f_JI_bitCount n m M = some ((nbc m : Int), M) := by
  have h1 := nb_1 hm
  have h2 := nb_2 h1.2
  have h3 := nb_3 h2.2
  have h4 := nb_4 h3.2
  have h5 := nb_5 h4.2
  unfold f_JI_bitCount
  rw [h1.1, h2.1, h3.1, h4.1, h5]
  rfl
def pc16 (m : Nat) : Nat := cn 16 (fun i => m.testBit i)
theorem two256 {p : Nat → Prop} (h : ∀ c : Nat, c < 16 → ∀ a : Nat, a < 64 → ∀ b : Nat, b < 64 → p (4096 * c + (64 * a + b))) {m : Nat} (hm : m < 65536) : p m := by
  have e := h (m / 4096) (by omega) (m % 4096 / 64) (by omega) (m % 64) (by omega)
  rw [show 4096 * (m / 4096) + (64 * (m % 4096 / 64) + m % 64) = m by omega] at e
  exact e
