/-! Rows of the JDK's own members. -/
section WAIT
variable {L : Lay} {w : Wd} {X : Cx} {own : String} {cc : ByteArray} {nL fr lo : Nat} {t : Nat} {r : Int} {M1 M : Mm} {lv : List (Nat × Value)} {st st0 : List Value} {pc : Nat}
theorem i32_ofNat (n : Nat) : Int32.ofNat n = i32 (n : Int) := (Int32.ofInt_eq_ofNat).symm
theorem arr_len (cA : ClassId) (n : Nat) (f : Nat → Value) : (arrV cA n f).slots.size.toInt32 = i32 (n : Int) := by
  rw [arrV_size]; exact i32_ofNat n
theorem vj_aleni (G : Gc L w X own cc nL fr lo) {k n b : Nat} (hk : lk L k = (0, n, b)) (hdg : decode cc pc = .ok (.arraylength, 1)) (kk : VJ L w X nL t r M1 M lv (.int (i32 (n : Int)) :: st) (pc + 1)) : VJ L w X nL t r M1 M lv (.ref (wa w k) :: st) pc := by
  intro H locs ls hP hS hl
  exact W.alen G.1 G.2.1 (rp_arr hP hk) (gx_arr G 0 rfl n _) (arr_len _ _ _) rfl rfl hdg (kk H locs ls hP hS hl)
theorem vj_alenl (G : Gc L w X own cc nL fr lo) {k n b : Nat} (hk : lk L k = (2, n, b)) (hdg : decode cc pc = .ok (.arraylength, 1)) (kk : VJ L w X nL t r M1 M lv (.int (i32 (n : Int)) :: st) (pc + 1)) : VJ L w X nL t r M1 M lv (.ref (wa w k) :: st) pc := by
  intro H locs ls hP hS hl
  exact W.alen G.1 G.2.1 (rp_arl hP hk) (gx_arr G 2 rfl n _) (arr_len _ _ _) rfl rfl hdg (kk H locs ls hP hS hl)
theorem mfil_0 (M : Mm) (k : Nat) (x : Int) : mfil M k 0 x = M := by
  funext k' j
  unfold mfil mrow
  by_cases e : k' = k
  · subst e; simp
  · simp [e]
theorem mfil_s (M : Mm) (k i : Nat) (x : Int) : mset (mfil M k i x) k i x = mfil M k (i + 1) x := by
  funext k' j
  unfold mset mfil mrow
  by_cases e : k' = k
  · subst e
    by_cases e2 : j = i
    · subst e2; simp
    · by_cases e3 : j < i
      · simp [e2, e3, Nat.lt_succ_of_lt e3]
      · simp [e2, e3, show ¬ j < i + 1 by omega]
  · simp [e]
theorem w32_nat {i : Nat} (h : i < 2147483647) : w32 ((i : Int) + 1) = ((i + 1 : Nat) : Int) := by
  rw [w32_id (by omega) (by omega)]; omega
theorem ir_nat {i : Nat} (h : i < 2147483648) : inR (i : Int) := ⟨by omega, by omega⟩
theorem wl_fillI (G0 : Gx L w X "java/util/Arrays" b_fillI 4 fr lo none) {k n b : Nat} (hk : lk L k = (0, n, b)) (hn : n < 2147483648) (h9 : k < 900) (hh : k ≠ lh L) {x : Int} (hx : inR x) : ∀ (f i : Nat), i ≤ n → n - i < f → VJ L w X 4 0 0 (mfil M k n x) (mfil M k i x) [(0, .ref (wa w k)), (1, .int (i32 x)), (2, .int (i32 (i : Int))), (3, .int (i32 (n : Int)))] [] 5 := by
  have G := G0.1
  intro f
  induction f with
  | zero => intro i h1 h2; omega
  | succ f ih =>
    intro i h1 h2
    refine vj_iload_n G (p9 := 2) d_fillI_5 rfl rfl ?_
    refine vj_iload_n G (p9 := 3) d_fillI_6 rfl rfl ?_
    refine vj_icmp_ge G (tgt := 20) d_fillI_7 (by decide) (ir_nat (by omega)) (ir_nat hn) (fun c => ?_) (fun c => ?_)
    · have e : i = n := by omega
      subst e
      exact vj_vret G0 d_fillI_20
    · refine vj_aload_n G (p9 := 0) d_fillI_10 rfl rfl ?_
      refine vj_iload_n G (p9 := 2) d_fillI_11 rfl rfl ?_
      refine vj_iload_n G (p9 := 1) d_fillI_12 rfl rfl ?_
      refine vj_iast G hk hn h9 hh ⟨by omega, by omega⟩ hx d_fillI_13 ?_
      refine vj_iinc G (p9 := 2) (n := 1) (lv2 := [(2, .int (i32 (w32 ((i : Int) + 1)))), (0, .ref (wa w k)), (1, .int (i32 x)), (3, .int (i32 (n : Int)))]) d_fillI_14 rfl (by decide) rfl ?_
      refine vj_goto G (tgt := 5) d_fillI_17 (by decide) ?_
      refine vj_sub [1, 2, 0, 3] rfl ?_
      rw [Int.toNat_natCast, mfil_s, w32_nat (by omega)]
      exact ih (i + 1) (by omega) (by omega)
theorem ct_fillI (hij : ij L w) (hK : Kst L) {k n b : Nat} (hk : lk L k = (0, n, b)) (hn : n < 2147483648) (h9 : k < 900) (hh : k ≠ lh L) {x : Int} (hx : inR x) : Ct L w y_fillI b_fillI 4 none 0 0 0 [.ref (wa w k), .int (i32 x)] M 0 (mfil M k n x) := by
  refine Ct.of hij hK (by decide +kernel) (Nat.le_of_ble_eq_true rfl) (fun X G0 => ?_)
  have G := G0.1
  show VJ L w X 4 0 0 (mfil M k n x) M [(0, .ref (wa w k)), (1, .int (i32 x))] [] 0
  refine vj_iconst G (v := 0) d_fillI_0 rfl ?_
  refine vj_istore_n G (lv2 := [(2, .int (i32 0)), (0, .ref (wa w k)), (1, .int (i32 x))]) d_fillI_1 rfl (by decide) rfl ?_
  refine vj_aload_n G (p9 := 1) d_fillI_2 rfl rfl ?_
  refine vj_aleni G hk d_fillI_3 ?_
  refine vj_istore_n G (lv2 := [(3, .int (i32 (n : Int))), (2, .int (i32 0)), (0, .ref (wa w k)), (1, .int (i32 x))]) d_fillI_4 rfl (by decide) rfl ?_
  refine vj_sub [2, 3, 1, 0] rfl ?_
  have h := wl_fillI (M := M) G0 hk hn h9 hh hx (n + 1) 0 (Nat.zero_le _) (by omega)
  rw [mfil_0] at h
  exact h
theorem vj_fillI (G : Gc L w X own cc nL fr lo) {k n b idx : Nat} {x : Int} (hk : lk L k = (0, n, b)) (hn : n < 2147483648) (h9 : k < 900) (hh : k ≠ lh L) (q1 : Cond.methodLink own idx y_fillI ∈ ALL) (hx : inR x) (hf : 1 ≤ fr) (hlo : 23 ≤ lo) (h0 : 0 = 0) (hdg : decode cc pc = .ok (.invokestatic idx, 3)) (kk : VJ L w X nL t r M1 (mfil M k n x) lv st (pc + 3)) (hW : (st.map fun v => v.category).sum ≤ 8 := by exact Nat.le_of_ble_eq_true rfl) : VJ L w X nL t r M1 M lv (.int (i32 x) :: .ref (wa w k) :: st) pc :=
  vj_callS0 G (ct_fillI (gx_ij G) G.2.2.2.2.2.2.2.2.2.2.1 hk hn h9 hh hx) q1 cq_fillI rfl (by omega) (by omega) hW hdg rfl (fun _ => kk)
theorem wl_fillJ (G0 : Gx L w X "java/util/Arrays" b_fillJ 5 fr lo none) {k n b : Nat} (hk : lk L k = (2, n, b)) (hn : n < 2147483648) (h9 : k < 900) (hh : k ≠ lh L) {x : Int} (hx : in64 x) : ∀ (f i : Nat), i ≤ n → n - i < f → VJ L w X 5 0 0 (mfil M k n x) (mfil M k i x) [(0, .ref (wa w k)), (1, .long (i64 x)), (3, .int (i32 (i : Int))), (4, .int (i32 (n : Int)))] [] 6 := by
  have G := G0.1
  intro f
  induction f with
  | zero => intro i h1 h2; omega
  | succ f ih =>
    intro i h1 h2
    refine vj_iload_n G (p9 := 2) d_fillJ_6 rfl rfl ?_
    refine vj_iload G (p9 := 3) d_fillJ_7 rfl ?_
    refine vj_icmp_ge G (tgt := 22) d_fillJ_9 (by decide) (ir_nat (by omega)) (ir_nat hn) (fun c => ?_) (fun c => ?_)
    · have e : i = n := by omega
      subst e
      exact vj_vret G0 d_fillJ_22
    · refine vj_aload_n G (p9 := 0) d_fillJ_12 rfl rfl ?_
      refine vj_iload_n G (p9 := 2) d_fillJ_13 rfl rfl ?_
      refine vj_lload_n G (p9 := 1) d_fillJ_14 rfl rfl ?_
      refine vj_last G hk hn h9 hh ⟨by omega, by omega⟩ hx d_fillJ_15 ?_
      refine vj_iinc G (p9 := 2) (n := 1) (lv2 := [(3, .int (i32 (w32 ((i : Int) + 1)))), (0, .ref (wa w k)), (1, .long (i64 x)), (4, .int (i32 (n : Int)))]) d_fillJ_16 rfl (by decide) rfl ?_
      refine vj_goto G (tgt := 6) d_fillJ_19 (by decide) ?_
      refine vj_sub [1, 2, 0, 3] rfl ?_
      rw [Int.toNat_natCast, mfil_s, w32_nat (by omega)]
      exact ih (i + 1) (by omega) (by omega)
theorem ct_fillJ (hij : ij L w) (hK : Kst L) {k n b : Nat} (hk : lk L k = (2, n, b)) (hn : n < 2147483648) (h9 : k < 900) (hh : k ≠ lh L) {x : Int} (hx : in64 x) : Ct L w y_fillJ b_fillJ 5 none 0 0 0 [.ref (wa w k), .long (i64 x)] M 0 (mfil M k n x) := by
  refine Ct.of hij hK (by decide +kernel) (Nat.le_of_ble_eq_true rfl) (fun X G0 => ?_)
  have G := G0.1
  show VJ L w X 5 0 0 (mfil M k n x) M [(0, .ref (wa w k)), (1, .long (i64 x))] [] 0
  refine vj_iconst G (v := 0) d_fillJ_0 rfl ?_
  refine vj_istore_n G (lv2 := [(3, .int (i32 0)), (0, .ref (wa w k)), (1, .long (i64 x))]) d_fillJ_1 rfl (by decide) rfl ?_
  refine vj_aload_n G (p9 := 1) d_fillJ_2 rfl rfl ?_
  refine vj_alenl G hk d_fillJ_3 ?_
  refine vj_istore G (lv2 := [(4, .int (i32 (n : Int))), (3, .int (i32 0)), (0, .ref (wa w k)), (1, .long (i64 x))]) d_fillJ_4 (by decide) rfl ?_
  refine vj_sub [2, 3, 1, 0] rfl ?_
  have h := wl_fillJ (M := M) G0 hk hn h9 hh hx (n + 1) 0 (Nat.zero_le _) (by omega)
  rw [mfil_0] at h
  exact h
theorem vj_fillL (G : Gc L w X own cc nL fr lo) {k n b idx : Nat} {x : Int} (hk : lk L k = (2, n, b)) (hn : n < 2147483648) (h9 : k < 900) (hh : k ≠ lh L) (q1 : Cond.methodLink own idx y_fillJ ∈ ALL) (hx : in64 x) (hf : 1 ≤ fr) (hlo : 24 ≤ lo) (h0 : 0 = 0) (hdg : decode cc pc = .ok (.invokestatic idx, 3)) (kk : VJ L w X nL t r M1 (mfil M k n x) lv st (pc + 3)) (hW : (st.map fun v => v.category).sum ≤ 8 := by exact Nat.le_of_ble_eq_true rfl) : VJ L w X nL t r M1 M lv (.long (i64 x) :: .ref (wa w k) :: st) pc :=
  vj_callS0 G (ct_fillJ (gx_ij G) G.2.2.2.2.2.2.2.2.2.2.1 hk hn h9 hh hx) q1 cq_fillJ rfl (by omega) (by omega) hW hdg rfl (fun _ => kk)
theorem ir_min {a b : Int} (ha : inR a) (hb : inR b) : inR (min a b) := by unfold inR at *; omega
theorem vj_mmin (G : Gc L w X own cc nL fr lo) {x y : Int} {idx : Nat} (hx : inR x) (hy : inR y) (q1 : Cond.methodLink own idx Lib.Math.min.name ∈ ALL) (q2 : Cond.static Lib.Math.min.name ∈ ALL) (q3 : Cond.initialized "java/lang/Math" ∈ ALL) (q4 : Cond.code Lib.Math.min.name Lib.Math.min.code 2 (some .int) ∈ ALL) (hf : 1 ≤ fr) (hlo : 21 ≤ lo) (hW : (st.map fun v => v.category).sum ≤ 8) (hdg : decode cc pc = .ok (.invokestatic idx, 3)) (kk : VJ L w X nL t r M1 M lv (.int (i32 (min x y)) :: st) (pc + 3)) : VJ L w X nL t r M1 M lv (.int (i32 y) :: .int (i32 x) :: st) pc := by
  intro H locs ls hP hS hl
  have hts := G.2.2.2.2.1
  refine va_mmin G.1 G.2.1 (by rw [G.2.2.1, hl.1]) G.2.2.2.1 (hts _ q1) (hts _ q2) (hts _ q3) (hts _ q4) (Nat.le_trans hf G.2.2.2.2.2.2.2.2.2.2.2.1) (Nat.le_trans (show (st.map fun v => v.category).sum + 13 ≤ 21 by omega) (Nat.le_trans hlo G.2.2.2.2.2.2.2.2.2.2.2.2)) G.2.2.2.2.2.2.2.2.1.2.2.1 G.2.2.2.2.2.2.2.2.1.2.2.2 hdg ?_
  have e : (if i32 y < i32 x then i32 y else i32 x) = i32 (min x y) := by
    by_cases h : y < x
    · rw [if_pos ((i32_lt hy hx).mpr h), show min x y = y by omega]
    · rw [if_neg (fun q => h ((i32_lt hy hx).mp q)), show min x y = x by omega]
  rw [e]
  exact kk H locs ls hP hS hl
end WAIT
