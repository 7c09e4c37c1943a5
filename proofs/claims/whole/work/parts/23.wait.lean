/-! Rows of the JDK's own. -/
abbrev y_fillI : MethodName := ⟨"java/util/Arrays", "fill", "([II)V"⟩
abbrev y_fillJ : MethodName := ⟨"java/util/Arrays", "fill", "([JJ)V"⟩
abbrev y_sLen : MethodName := ⟨"java/lang/String", "length", "()I"⟩
abbrev y_sCh : MethodName := ⟨"java/lang/String", "charAt", "(I)C"⟩
theorem ir_sLen (s : Int) : inR (sLen s) := by sorry
theorem ir_sCh (s i : Int) : inR (sCh s i) := by sorry
section WAIT
variable {L : Lay} {w : Wd} {X : Cx} {own : String} {cc : ByteArray} {nL fr lo : Nat} {ret : Option FieldType} {t : Nat} {r : Int} {M1 M : Mm} {lv : List (Nat × Value)} {st st0 : List Value} {pc : Nat}
theorem vj_fillI (G : Gx L w X own cc nL fr lo ret) {k n b idx : Nat} {x : Int} (hk : lk L k = (0, n, b)) (hn : n < 2147483648) (h9 : k < 900) (hh : k ≠ lh L) (q1 : Cond.methodLink own idx y_fillI ∈ ALL) (hx : inR x) (hf : 1 ≤ fr) (hlo : 23 ≤ lo) (h0 : 0 = 0) (hdg : decode cc pc = .ok (.invokestatic idx, 3)) (kk : VJ L w X nL t r M1 (mfil M k n x) lv st (pc + 3)) : VJ L w X nL t r M1 M lv (.int (i32 x) :: .ref (wa w k) :: st) pc := by sorry
theorem vj_fillL (G : Gx L w X own cc nL fr lo ret) {k n b idx : Nat} {x : Int} (hk : lk L k = (2, n, b)) (hn : n < 2147483648) (h9 : k < 900) (hh : k ≠ lh L) (q1 : Cond.methodLink own idx y_fillJ ∈ ALL) (hx : in64 x) (hf : 1 ≤ fr) (hlo : 24 ≤ lo) (h0 : 0 = 0) (hdg : decode cc pc = .ok (.invokestatic idx, 3)) (kk : VJ L w X nL t r M1 (mfil M k n x) lv st (pc + 3)) : VJ L w X nL t r M1 M lv (.long (i64 x) :: .ref (wa w k) :: st) pc := by sorry
theorem vj_acopyI (G : Gx L w X own cc nL fr lo ret) {k1 n1 b1 k2 n2 b2 idx : Nat} {i j n : Int} (hk1 : lk L k1 = (0, n1, b1)) (hk2 : lk L k2 = (0, n2, b2)) (hn1 : n1 < 2147483648) (hn2 : n2 < 2147483648) (h9 : k2 < 900) (hh : k2 ≠ lh L) (hb : 0 ≤ i ∧ 0 ≤ j ∧ 0 ≤ n ∧ i + n ≤ n1 ∧ j + n ≤ n2) (q1 : Cond.methodLink own idx arraycopyName ∈ ALL) (q2 : Cond.native arraycopyName ∈ ALL) (q3 : Cond.static arraycopyName ∈ ALL) (q4 : Cond.initialized "java/lang/System" ∈ ALL) (hdg : decode cc pc = .ok (.invokestatic idx, 3)) (kk : VJ L w X nL t r M1 (mcpy M k1 i.toNat k2 j.toNat n.toNat) lv st (pc + 3)) : VJ L w X nL t r M1 M lv (.int (i32 n) :: .int (i32 j) :: .ref (wa w k2) :: .int (i32 i) :: .ref (wa w k1) :: st) pc := by sorry
theorem vj_acopyL (G : Gx L w X own cc nL fr lo ret) {k1 n1 b1 k2 n2 b2 idx : Nat} {i j n : Int} (hk1 : lk L k1 = (2, n1, b1)) (hk2 : lk L k2 = (2, n2, b2)) (hn1 : n1 < 2147483648) (hn2 : n2 < 2147483648) (h9 : k2 < 900) (hh : k2 ≠ lh L) (hb : 0 ≤ i ∧ 0 ≤ j ∧ 0 ≤ n ∧ i + n ≤ n1 ∧ j + n ≤ n2) (q1 : Cond.methodLink own idx arraycopyName ∈ ALL) (q2 : Cond.native arraycopyName ∈ ALL) (q3 : Cond.static arraycopyName ∈ ALL) (q4 : Cond.initialized "java/lang/System" ∈ ALL) (hdg : decode cc pc = .ok (.invokestatic idx, 3)) (kk : VJ L w X nL t r M1 (mcpy M k1 i.toNat k2 j.toNat n.toNat) lv st (pc + 3)) : VJ L w X nL t r M1 M lv (.int (i32 n) :: .int (i32 j) :: .ref (wa w k2) :: .int (i32 i) :: .ref (wa w k1) :: st) pc := by sorry
theorem ir_min {a b : Int} (ha : inR a) (hb : inR b) : inR (min a b) := by unfold inR at *; omega
theorem vj_mmin (G : Gx L w X own cc nL fr lo ret) {x y : Int} {idx : Nat} (hx : inR x) (hy : inR y) (q1 : Cond.methodLink own idx Lib.Math.min.name ∈ ALL) (q2 : Cond.static Lib.Math.min.name ∈ ALL) (q3 : Cond.initialized "java/lang/Math" ∈ ALL) (q4 : Cond.code Lib.Math.min.name Lib.Math.min.code 2 (some .int) ∈ ALL) (hf : 1 ≤ fr) (hlo : 21 ≤ lo) (hW : (st.map fun v => v.category).sum ≤ 8) (hdg : decode cc pc = .ok (.invokestatic idx, 3)) (kk : VJ L w X nL t r M1 M lv (.int (i32 (min x y)) :: st) (pc + 3)) : VJ L w X nL t r M1 M lv (.int (i32 y) :: .int (i32 x) :: st) pc := by
  intro H locs ls hP hS hl
  have hts := G.2.2.2.2.1
  refine va_mmin G.1 G.2.1 (by rw [G.2.2.1, hl.1]) G.2.2.2.1 (hts _ q1) (hts _ q2) (hts _ q3) (hts _ q4) (Nat.le_trans hf G.2.2.2.2.2.2.2.2.2.2.2.1) (Nat.le_trans (by omega) (Nat.le_trans hlo G.2.2.2.2.2.2.2.2.2.2.2.2)) (Nat.zero_le _) (Nat.zero_le _) hdg ?_
  have e : (if i32 y < i32 x then i32 y else i32 x) = i32 (min x y) := by
    by_cases h : y < x
    · rw [if_pos ((i32_lt hy hx).mpr h), show min x y = y by omega]
    · rw [if_neg (fun q => h ((i32_lt hy hx).mp q)), show min x y = x by omega]
  rw [e]
  exact kk H locs ls hP hS hl
end WAIT
section WAITS
variable {w : Wd} {X : Cx} {own : String} {cc : ByteArray} {nL fr lo : Nat} {ret : Option FieldType} {t : Nat} {r : Int} {M1 M : Mm} {lv : List (Nat × Value)} {st st0 : List Value} {pc : Nat}
def sKey (s : Int) : Nat := if s = 0 then 68 else if s = 1 then 70 else if s = 2 then 72 else if s = 3 then 74 else if s = 4 then 76 else 0
theorem vj_ldcS (G : Gx LC w X "WhoRules$Charters" cc nL fr lo ret) {idx : Nat} {v : Int} (hdg : decode cc pc = .ok (.ldc idx, 2)) (hq : True) (kk : VJ LC w X nL t r M1 M lv (.ref (ws9 w v.toNat) :: st) (pc + 2)) : VJ LC w X nL t r M1 M lv st pc := by sorry
theorem vj_sLen (G : Gx LC w X own cc nL fr lo ret) {idx : Nat} {s : Int} (hs : 0 ≤ s ∧ s < 7) (q1 : Cond.methodLink own idx y_sLen ∈ ALL) (hf : 6 ≤ fr) (hlo : 200 ≤ lo) (h0 : 0 = 0) (hdg : decode cc pc = .ok (.invokevirtual idx, 3)) (kk : VJ LC w X nL t r M1 M lv (.int (i32 (sLen s)) :: st) (pc + 3)) : VJ LC w X nL t r M1 M lv (.ref (ws9 w s.toNat) :: st) pc := by sorry
theorem vj_sChar (G : Gx LC w X own cc nL fr lo ret) {idx : Nat} {s i : Int} (hs : 0 ≤ s ∧ s < 7) (hi : 0 ≤ i ∧ i < sLen s) (q1 : Cond.methodLink own idx y_sCh ∈ ALL) (hf : 10 ≤ fr) (hlo : 400 ≤ lo) (h0 : 0 = 0) (hdg : decode cc pc = .ok (.invokevirtual idx, 3)) (kk : VJ LC w X nL t r M1 M lv (.int (i32 (sCh s i)) :: st) (pc + 3)) : VJ LC w X nL t r M1 M lv (.int (i32 i) :: .ref (ws9 w s.toNat) :: st) pc := by sorry
end WAITS
