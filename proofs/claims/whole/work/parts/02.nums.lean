/-! Numbers of the machine as whole numbers; memory as a function of a cell's number and a place; programs as functions into Option. -/
def i32 (x : Int) : Int32 := Int32.ofInt x
def i64 (x : Int) : Int64 := Int64.ofInt x
def w32 (x : Int) : Int := (Int32.ofInt x).toInt
def w64 (x : Int) : Int := (Int64.ofInt x).toInt
def w16 (x : Int) : Int := (Int32.ofInt x).toInt16.toInt32.toInt
def w8 (x : Int) : Int := (Int32.ofInt x).toInt8.toInt32.toInt
def inR (x : Int) : Prop := -2147483648 ≤ x ∧ x ≤ 2147483647
def in64 (x : Int) : Prop := -9223372036854775808 ≤ x ∧ x ≤ 9223372036854775807
def inB (x : Int) : Prop := x = 0 ∨ x = 1
def idv (x y : Int) : Int := (Int32.ofInt x / Int32.ofInt y).toInt
def irm (x y : Int) : Int := (Int32.ofInt x - Int32.ofInt x / Int32.ofInt y * Int32.ofInt y).toInt
def ian (x y : Int) : Int := (Int32.ofInt x &&& Int32.ofInt y).toInt
def ior (x y : Int) : Int := (Int32.ofInt x ||| Int32.ofInt y).toInt
def ixo (x y : Int) : Int := (Int32.ofInt x ^^^ Int32.ofInt y).toInt
def ish (x y : Int) : Int := (Int32.ofInt x <<< (Int32.ofInt y &&& 31)).toInt
def isr (x y : Int) : Int := (Int32.ofInt x >>> (Int32.ofInt y &&& 31)).toInt
def isu (x y : Int) : Int := ((Int32.ofInt x).toUInt32 >>> ((Int32.ofInt y).toUInt32 &&& Int32.toUInt32 31)).toInt32.toInt
def ldv (x y : Int) : Int := (Int64.ofInt x / Int64.ofInt y).toInt
def lrm (x y : Int) : Int := (Int64.ofInt x - Int64.ofInt x / Int64.ofInt y * Int64.ofInt y).toInt
def lan (x y : Int) : Int := (Int64.ofInt x &&& Int64.ofInt y).toInt
def lor (x y : Int) : Int := (Int64.ofInt x ||| Int64.ofInt y).toInt
def lxo (x y : Int) : Int := (Int64.ofInt x ^^^ Int64.ofInt y).toInt
def lsh (x y : Int) : Int := (Int64.ofInt x <<< ((Int32.ofInt y).toInt64 &&& 63)).toInt
def lsr (x y : Int) : Int := (Int64.ofInt x >>> ((Int32.ofInt y).toInt64 &&& 63)).toInt
theorem inR_toInt (v : Int32) : inR v.toInt := by
  have h1 := v.toInt_lt
  have h2 := v.le_toInt
  unfold inR
  omega
theorem in64_toInt (v : Int64) : in64 v.toInt := by
  have h1 := v.toInt_lt
  have h2 := v.le_toInt
  unfold in64
  omega
theorem i32_t (v : Int32) : i32 v.toInt = v := Int32.ofInt_toInt v
theorem i64_t (v : Int64) : i64 v.toInt = v := Int64.ofInt_toInt v
theorem t_i32 {x : Int} (h : inR x) : (i32 x).toInt = x := Int32.toInt_ofInt_of_le h.1 (by have := h.2; omega)
theorem t_i64 {x : Int} (h : in64 x) : (i64 x).toInt = x := Int64.toInt_ofInt_of_le h.1 (by have := h.2; omega)
theorem ir_w (x : Int) : inR (w32 x) := inR_toInt _
theorem lr_w (x : Int) : in64 (w64 x) := in64_toInt _
theorem ir_w16 (x : Int) : inR (w16 x) := inR_toInt _
theorem ir_w8 (x : Int) : inR (w8 x) := inR_toInt _
theorem ir_dv (x y : Int) : inR (idv x y) := inR_toInt _
theorem ir_rm (x y : Int) : inR (irm x y) := inR_toInt _
theorem ir_an (x y : Int) : inR (ian x y) := inR_toInt _
theorem ir_or (x y : Int) : inR (ior x y) := inR_toInt _
theorem ir_xo (x y : Int) : inR (ixo x y) := inR_toInt _
theorem ir_sh (x y : Int) : inR (ish x y) := inR_toInt _
theorem ir_sr (x y : Int) : inR (isr x y) := inR_toInt _
theorem ir_su (x y : Int) : inR (isu x y) := inR_toInt _
theorem lr_dv (x y : Int) : in64 (ldv x y) := in64_toInt _
theorem lr_rm (x y : Int) : in64 (lrm x y) := in64_toInt _
theorem lr_an (x y : Int) : in64 (lan x y) := in64_toInt _
theorem lr_or (x y : Int) : in64 (lor x y) := in64_toInt _
theorem lr_xo (x y : Int) : in64 (lxo x y) := in64_toInt _
theorem lr_sh (x y : Int) : in64 (lsh x y) := in64_toInt _
theorem lr_sr (x y : Int) : in64 (lsr x y) := in64_toInt _
theorem ir_b {x : Int} (h : inB x) : inR x := by rcases h with rfl | rfl <;> (unfold inR; decide)
theorem lr_i {x : Int} (h : inR x) : in64 x := by have h1 := h.1; have h2 := h.2; unfold in64; omega
theorem w32_id {x : Int} (h1 : -2147483648 ≤ x) (h2 : x ≤ 2147483647) : w32 x = x := t_i32 ⟨h1, h2⟩
theorem w64_id {x : Int} (h1 : -9223372036854775808 ≤ x) (h2 : x ≤ 9223372036854775807) : w64 x = x := t_i64 ⟨h1, h2⟩
theorem i32_add (x y : Int) : i32 x + i32 y = i32 (w32 (x + y)) := by unfold i32 w32; rw [Int32.ofInt_toInt, Int32.ofInt_add]
theorem i32_sub (x y : Int) : i32 x - i32 y = i32 (w32 (x - y)) := by unfold i32 w32; rw [Int32.ofInt_toInt, Int32.ofInt_sub]
theorem i32_mul (x y : Int) : i32 x * i32 y = i32 (w32 (x * y)) := by unfold i32 w32; rw [Int32.ofInt_toInt, Int32.ofInt_mul]
theorem i32_neg (x : Int) : - i32 x = i32 (w32 (-x)) := by unfold i32 w32; rw [Int32.ofInt_toInt, Int32.ofInt_neg]
theorem i64_add (x y : Int) : i64 x + i64 y = i64 (w64 (x + y)) := by unfold i64 w64; rw [Int64.ofInt_toInt, Int64.ofInt_add]
theorem i64_sub (x y : Int) : i64 x - i64 y = i64 (w64 (x - y)) := by unfold i64 w64; rw [Int64.ofInt_toInt, Int64.ofInt_sub]
theorem i64_mul (x y : Int) : i64 x * i64 y = i64 (w64 (x * y)) := by unfold i64 w64; rw [Int64.ofInt_toInt, Int64.ofInt_mul]
theorem i64_neg (x : Int) : - i64 x = i64 (w64 (-x)) := by unfold i64 w64; rw [Int64.ofInt_toInt, Int64.ofInt_neg]
theorem i32_dv (x y : Int) : i32 x / i32 y = i32 (idv x y) := (Int32.ofInt_toInt _).symm
theorem i32_rm (x y : Int) : i32 x - i32 x / i32 y * i32 y = i32 (irm x y) := (Int32.ofInt_toInt _).symm
theorem i32_an (x y : Int) : i32 x &&& i32 y = i32 (ian x y) := (Int32.ofInt_toInt _).symm
theorem i32_or (x y : Int) : i32 x ||| i32 y = i32 (ior x y) := (Int32.ofInt_toInt _).symm
theorem i32_xo (x y : Int) : i32 x ^^^ i32 y = i32 (ixo x y) := (Int32.ofInt_toInt _).symm
theorem i32_sh (x y : Int) : i32 x <<< (i32 y &&& 31) = i32 (ish x y) := (Int32.ofInt_toInt _).symm
theorem i32_sr (x y : Int) : i32 x >>> (i32 y &&& 31) = i32 (isr x y) := (Int32.ofInt_toInt _).symm
theorem i32_su (x y : Int) : ((i32 x).toUInt32 >>> ((i32 y).toUInt32 &&& Int32.toUInt32 31)).toInt32 = i32 (isu x y) := (Int32.ofInt_toInt _).symm
theorem i64_dv (x y : Int) : i64 x / i64 y = i64 (ldv x y) := (Int64.ofInt_toInt _).symm
theorem i64_rm (x y : Int) : i64 x - i64 x / i64 y * i64 y = i64 (lrm x y) := (Int64.ofInt_toInt _).symm
theorem i64_an (x y : Int) : i64 x &&& i64 y = i64 (lan x y) := (Int64.ofInt_toInt _).symm
theorem i64_or (x y : Int) : i64 x ||| i64 y = i64 (lor x y) := (Int64.ofInt_toInt _).symm
theorem i64_xo (x y : Int) : i64 x ^^^ i64 y = i64 (lxo x y) := (Int64.ofInt_toInt _).symm
theorem i64_sh (x y : Int) : i64 x <<< ((i32 y).toInt64 &&& 63) = i64 (lsh x y) := (Int64.ofInt_toInt _).symm
theorem i64_sr (x y : Int) : i64 x >>> ((i32 y).toInt64 &&& 63) = i64 (lsr x y) := (Int64.ofInt_toInt _).symm
theorem i32_l {x : Int} (h : inR x) : (i32 x).toInt64 = i64 x := by
  refine Int32.toInt64_ofInt ?_ ?_
  · rw [Int32.toInt_minValue]; exact h.1
  · rw [Int32.toInt_maxValue]; have := h.2; omega
theorem i64_i (x : Int) : (i64 x).toInt32 = i32 (w32 x) := by unfold i64 i32 w32; rw [Int32.ofInt_toInt, Int64.toInt32_ofInt]
theorem i32_b (x : Int) : (i32 x).toInt8.toInt32 = i32 (w8 x) := (Int32.ofInt_toInt _).symm
theorem i32_s (x : Int) : (i32 x).toInt16.toInt32 = i32 (w16 x) := (Int32.ofInt_toInt _).symm
theorem i32_eq {x y : Int} (hx : inR x) (hy : inR y) : i32 x = i32 y ↔ x = y := by
  constructor
  · intro h
    have h2 := congrArg Int32.toInt h
    rwa [t_i32 hx, t_i32 hy] at h2
  · rintro rfl; rfl
theorem i32_lt {x y : Int} (hx : inR x) (hy : inR y) : i32 x < i32 y ↔ x < y := by rw [Int32.lt_iff_toInt_lt, t_i32 hx, t_i32 hy]
theorem i32_le {x y : Int} (hx : inR x) (hy : inR y) : i32 x ≤ i32 y ↔ x ≤ y := by rw [Int32.le_iff_toInt_le, t_i32 hx, t_i32 hy]
theorem i64_eq {x y : Int} (hx : in64 x) (hy : in64 y) : i64 x = i64 y ↔ x = y := by
  constructor
  · intro h
    have h2 := congrArg Int64.toInt h
    rwa [t_i64 hx, t_i64 hy] at h2
  · rintro rfl; rfl
theorem i64_lt {x y : Int} (hx : in64 x) (hy : in64 y) : i64 x < i64 y ↔ x < y := by rw [Int64.lt_iff_toInt_lt, t_i64 hx, t_i64 hy]
theorem i32_0 : (0 : Int32) = i32 0 := rfl
theorem ir_0 : inR 0 := by unfold inR; decide
theorem i32_nat {x : Int} {n : Nat} (h : 0 ≤ x ∧ x < (n : Int)) (hn : n < 2147483648) : (i32 x).toNatClampNeg = x.toNat := by
  unfold i32
  exact Int32.toNatClampNeg_ofInt_of_le (by omega) (by omega)
theorem i32_in {x : Int} {n : Nat} (h : 0 ≤ x ∧ x < (n : Int)) (hn : n < 2147483648) : ¬ (i32 x < 0 ∨ n ≤ (i32 x).toNatClampNeg) := by
  rw [i32_nat h hn, i32_0, i32_lt ⟨by omega, by omega⟩ ir_0]
  omega
abbrev Mm : Type := Nat → Nat → Int
abbrev Rr : Type := Option (Int × Mm)
def mrow (M : Mm) (k : Nat) (f : Nat → Int) : Mm := fun k' => if k' = k then f else M k'
def mset (M : Mm) (k j : Nat) (v : Int) : Mm := mrow M k (fun j' => if j' = j then v else M k j')
def mfil (M : Mm) (k n : Nat) (v : Int) : Mm := mrow M k (fun j => if j < n then v else M k j)
def mcpy (M : Mm) (k i k2 j n : Nat) : Mm := mrow M k2 (fun q => if j ≤ q ∧ q < j + n then M k (i + (q - j)) else M k2 q)
def ck (c : Prop) [Decidable c] (r : Rr) : Rr := if c then r else none
def bnd (o : Rr) (k : Int → Mm → Rr) : Rr := match o with
  | none => none
  | some q => k q.1 q.2
theorem ck_some {c : Prop} [Decidable c] {r : Rr} {q : Int × Mm} (h : ck c r = some q) : c ∧ r = some q := by
  unfold ck at h
  by_cases hc : c
  · rw [if_pos hc] at h; exact ⟨hc, h⟩
  · rw [if_neg hc] at h; cases h
theorem ck_pos {c : Prop} [Decidable c] (hc : c) (r : Rr) : ck c r = r := if_pos hc
theorem bnd_some {o : Rr} {k : Int → Mm → Rr} {q : Int × Mm} (h : bnd o k = some q) : ∃ r M, o = some (r, M) ∧ k r M = some q := by
  cases o with
  | none => cases h
  | some z => exact ⟨z.1, z.2, rfl, h⟩
theorem bnd_eq {o : Rr} {r : Int} {M : Mm} (h : o = some (r, M)) (k : Int → Mm → Rr) : bnd o k = k r M := by subst h; rfl
theorem bnd_mk (r : Int) (M : Mm) (k : Int → Mm → Rr) : bnd (some (r, M)) k = k r M := rfl
theorem ms_row (M : Mm) (k j : Nat) (v : Int) : mset M k j v k = fun j' => if j' = j then v else M k j' := if_pos rfl
theorem mr_ne {M : Mm} {k k' : Nat} {f : Nat → Int} (h : k' ≠ k) : mrow M k f k' = M k' := if_neg h
theorem mr_eq (M : Mm) (k : Nat) (f : Nat → Int) : mrow M k f k = f := if_pos rfl
