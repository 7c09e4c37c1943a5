/-! The texts: length, charAt, ldc. -/
theorem st_len : ∀ i, i < 7 → (sLens.getD i 0 : Int) = sLen (i : Int) := by decide +kernel
theorem st_ch : ∀ i, i < 7 → ∀ j, j < sLens.getD i 0 → (sBys.getD i []).getD j 0 = i32 (sCh (i : Int) (j : Int)) ∧ ((sBys.getD i []).getD j 0 &&& 255) = i32 (sCh (i : Int) (j : Int)) ∧ ((i32 (sCh (i : Int) (j : Int))).toUInt32 % 65536).toInt32 = i32 (sCh (i : Int) (j : Int)) ∧ 0 ≤ sCh (i : Int) (j : Int) ∧ sCh (i : Int) (j : Int) < 128 ∧ (i32 (sCh (i : Int) (j : Int))).toUInt32.toUInt16.toUInt32.toInt32 = i32 (sCh (i : Int) (j : Int)) := by decide +kernel
theorem st_len0 : ∀ i, i < 7 → isr (sLens.getD i 0 : Int) 0 = (sLens.getD i 0 : Int) ∧ sLens.getD i 0 < 6 := by decide +kernel
theorem sTx_b (s : Int) : (sTx s).length ≤ 5 ∧ ∀ x ∈ sTx s, 0 ≤ x ∧ x < 128 := by
  unfold sTx
  (repeat (first | split | decide))
theorem ir_sLen (s : Int) : inR (sLen s) := by
  have h := (sTx_b s).1
  unfold sLen inR
  omega
theorem ir_sCh (s i : Int) : inR (sCh s i) := by
  unfold sCh
  cases h : (sTx s)[i.toNat]? with
  | none => exact ir_0
  | some x =>
    have h1 := (sTx_b s).2 x (List.mem_of_getElem? h)
    show inR x
    unfold inR; omega
section WAITS
variable {L : Lay} {w : Wd} {X : Cx} {own : String} {cc : ByteArray} {nL fr lo : Nat} {ret : Option FieldType} {t : Nat} {r : Int} {M1 M : Mm} {lv : List (Nat × Value)} {st st0 : List Value} {pc : Nat}
/-- the answer of a small type, as an int -/
theorem vj_tret {ty : FieldType} (G0 : Gx L w X own cc nL fr lo (some ty)) {v : Int} (hn : narrow ty (.int (i32 v)) = .int (i32 v)) (hv : inR v) (hdg : decode cc pc = .ok (.ireturn, 1)) : VJ L w X nL 1 v M M lv [.int (i32 v)] pc := by
  intro H locs ls hP hS hl
  have G := G0.1
  have hA := G0.2.2.1
  rw [hA] at hS
  rw [show xQ X = _ from G0.2.2.2]
  rw [hA]
  exact W.zret (v := i32 v) (ty := ty) G.1 G.2.1 G0.2.1 hn (Ct.end (t := 1) rfl hv hP hS) hS.2.2 hdg G.2.2.2.2.2.2.2.1
theorem gc_str (G : Gx LC w X own cc nL fr lo ret) : KXC w (xs X) := G.1.2.2.2.2.2.2.1
theorem vj_callVs (G0 : Gx LC w X own cc nL fr lo ret) {y : MethodName} {code : ByteArray} {maxL : Nat} {ret2 : Option FieldType} {f2 l2 idx i : Nat} {As : List Value} {r1 : Int} {n : Nat} (hi : i < 7)
    (hC : Ct LC w y code maxL ret2 f2 l2 1 (.ref (ws9 w i) :: As) M r1 M) (hy : y.cls = "java/lang/String") (q1 : Cond.methodLink own idx y ∈ ALL) (cq : cqV y code maxL ret2 n) (hn : As.length = n)
    (hf : f2 + 1 ≤ fr) (hlo : 8 + (maxL + 11) + l2 ≤ lo) (hW : (st.map fun v => v.category).sum ≤ 8) (hdg : decode cc pc = .ok (.invokevirtual idx, 3)) (hst : st0 = As.reverse ++ .ref (ws9 w i) :: st)
    (kk : inR r1 → VJ LC w X nL t r M1 M lv (.int (i32 r1) :: st) (pc + 3)) : VJ LC w X nL t r M1 M lv st0 pc := by
  have G := G0.1
  refine vj_behind G (t1 := 1) (r1 := r1) (M2 := M) (aa := (Value.ref (ws9 w i) :: As).toArray) (fun H locs ls hP hS hl => ?_) kk
  subst hst
  have hcw := cwV (R := xR X) (s := xs X) (args := xa X) (Ts := ALL) (own := own) (index := idx) (C := "java/lang/String") (y := y) (bytes := code) (maxL := maxL) (ret := ret2) (ws := wsOf y code maxL ret2) (ws' := ALL) (rm := { frames := f2, cells := 0, slots := 0, locals := l2 }) (mc := 0) (ms := 0) n G.2.2.2.2.1 (by
      unfold wsV
      refine lt_all (fun c hc1 => ?_) cq.2.2.2.1
      simp only [List.mem_cons, List.not_mem_nil, or_false] at hc1
      rcases hc1 with rfl | rfl | rfl | rfl
      · exact q1
      · exact cq.1
      · rw [← hy]; exact cq.2.1
      · rw [← hy]; exact cq.2.2.1) rfl rfl rfl ⟨hy, cq.2.2.2.2⟩ (gx_rm G hf hlo)
  obtain ⟨hE, -⟩ := gc_str G0
  exact va_runV (As := As) (rest := st) ⟨G.1, G.2.1, G.2.2.1, G.2.2.2.1, G.2.2.2.2.1⟩ (hC (xl X)) hcw ⟨bx_blind G.2.2.2.2.2.2.2.2.2.2.1 _, vk_recv hE hi (locs := locs) (by rw [G0.2.2.1] at hS; exact hS), bx_at G hP hS _⟩ rfl hn hl.1 rfl (lv_room hW) hdg ⟨G.2.2.2.2.2.2.2.2.1.2.2.1, G.2.2.2.2.2.2.2.2.1.2.2.2⟩
theorem vj_gets (G0 : Gx LC w X own cc nL fr lo ret) {C n d : String} {v : Value} {idx : Nat} (hZ : va_Z C n d v (Aw LC0 w) (xs X) (xs X).heap) (q : Cond.fieldLink own idx C n d ∈ ALL) (hdg : decode cc pc = .ok (.getstatic idx, 3)) (kk : VJ LC w X nL t r M1 M lv (v :: st) (pc + 3)) : VJ LC w X nL t r M1 M lv st pc := by
  intro H locs ls hP hS hl
  have G := G0.1
  have hS2 := hS
  rw [G0.2.2.1] at hS2
  exact va_gets G.1 G.2.1 hZ hS2 G.2.2.2.1 (G.2.2.2.2.1 _ q) (fun _ h => h) hdg (kk H locs ls hP hS hl)
theorem vj_sgetf (G0 : Gx LC w X own cc nL fr lo ret) {o n d : String} {v : Value} {idx q : Nat} (hE : va_OF o n d v q (Aw LC0 w) (xs X) (xs X).heap) (hq : Cond.fieldLink own idx o n d ∈ ALL) (hdg : decode cc pc = .ok (.getfield idx, 3)) (kk : VJ LC w X nL t r M1 M lv (v :: st) (pc + 3)) : VJ LC w X nL t r M1 M lv (.ref q :: st) pc := by
  intro H locs ls hP hS hl
  have G := G0.1
  have hS2 := hS
  rw [G0.2.2.1] at hS2
  exact vk_getf G.1 G.2.1 hE hS2 G.2.2.2.1 (G.2.2.2.2.1 _ hq) (fun _ h => h) hdg (kk H locs ls hP hS hl)
theorem vj_salen (G0 : Gx LC w X own cc nL fr lo ret) {ty : FieldType} {q N : Nat} {f : Nat → Value} (hT : va_T ty q N f (Aw LC0 w) (xs X) (xs X).heap) (hdg : decode cc pc = .ok (.arraylength, 1)) (kk : VJ LC w X nL t r M1 M lv (.int (i32 (N : Int)) :: st) (pc + 1)) : VJ LC w X nL t r M1 M lv (.ref q :: st) pc := by
  intro H locs ls hP hS hl
  have G := G0.1
  have hS2 := hS
  rw [G0.2.2.1] at hS2
  exact va_tlen G.1 G.2.1 hT hS2 (i32_ofNat N) hdg (kk H locs ls hP hS hl)
theorem vj_sbald (G0 : Gx LC w X own cc nL fr lo ret) {q N : Nat} {f : Nat → Value} {x v : Int} (hT : va_T .byte q N f (Aw LC0 w) (xs X) (xs X).heap) (hb : 0 ≤ x ∧ x < (N : Int)) (hn : N < 2147483648) (hv : f x.toNat = .int (i32 v)) (hdg : decode cc pc = .ok (.baload, 1)) (kk : VJ LC w X nL t r M1 M lv (.int (i32 v) :: st) (pc + 1)) : VJ LC w X nL t r M1 M lv (.int (i32 x) :: .ref q :: st) pc := by
  intro H locs ls hP hS hl
  have G := G0.1
  have hS2 := hS
  rw [G0.2.2.1] at hS2
  exact va_tb G.1 G.2.1 hT hS2 (i32_in hb hn) (by rw [i32_nat hb hn]; exact hv) hdg (kk H locs ls hP hS hl)
theorem vj_i2c (G : Gc L w X own cc nL fr lo) {x y : Int} (hv : ((i32 x).toUInt32 % 65536).toInt32 = i32 y) (hdg : decode cc pc = .ok (.i2c, 1)) (kk : VJ L w X nL t r M1 M lv (.int (i32 y) :: st) (pc + 1)) : VJ L w X nL t r M1 M lv (.int (i32 x) :: st) pc := by
  intro H locs ls hP hS hl
  exact lv_i2c G.1 G.2.1 hdg hv (kk H locs ls hP hS hl)
theorem vj_astv_n (G : Gc L w X own cc nL fr lo) {v : Value} {p9 i : Nat} {k : Fin 4} (hdg : decode cc pc = .ok (.aload_n k, 1)) (hi : (k : Nat) = i) (hv : v = .null ∨ ∃ a, v = .ref a) (hg : lv[p9]? = some (i, v)) (kk : VJ L w X nL t r M1 M lv (v :: st) (pc + 1)) : VJ L w X nL t r M1 M lv st pc := by
  rcases hv with rfl | ⟨a, rfl⟩
  · exact vj_aload_nN G hdg hi hg kk
  · exact vj_aload_n G hdg hi hg kk
theorem ct_sCoder (hij : ij LC w) {i : Nat} (hi : i < 7) : Ct LC w y_sCoder b_sCoder 1 (some .byte) 0 0 1 [.ref (ws9 w i)] M 0 M := by
  refine Ct.of hij KstC (by decide +kernel) (Nat.le_of_ble_eq_true rfl) (fun X G0 => ?_)
  have G := G0.1
  show VJ LC w X 1 1 0 M M [(0, .ref (ws9 w i))] [] 0
  obtain ⟨hE, -, hZ, -⟩ := gc_str G0
  refine vj_gets G0 hZ qj_682 d_sCoder_0 ?_
  refine vj_if_eq G (x := 1) (tgt := 13) d_sCoder_3 (by decide) ⟨by decide, by decide⟩ (fun c => absurd c (by decide)) (fun _ => ?_)
  refine vj_aload_n G (p9 := 0) d_sCoder_6 rfl rfl ?_
  refine vj_sgetf G0 (hE.1 i hi).2.1 qj_1957 d_sCoder_7 ?_
  refine vj_goto G (tgt := 14) d_sCoder_10 (by decide) ?_
  exact vj_tret G0 (v := 0) rfl ir_0 d_sCoder_14
theorem ct_sLat (hij : ij LC w) {i : Nat} (hi : i < 7) : Ct LC w y_sLat b_sLat 1 (some .boolean) 0 0 1 [.ref (ws9 w i)] M 1 M := by
  refine Ct.of hij KstC (by decide +kernel) (Nat.le_of_ble_eq_true rfl) (fun X G0 => ?_)
  have G := G0.1
  show VJ LC w X 1 1 1 M M [(0, .ref (ws9 w i))] [] 0
  obtain ⟨hE, -, hZ, -⟩ := gc_str G0
  refine vj_gets G0 hZ qj_682 d_sLat_0 ?_
  refine vj_if_eq G (x := 1) (tgt := 17) d_sLat_3 (by decide) ⟨by decide, by decide⟩ (fun c => absurd c (by decide)) (fun _ => ?_)
  refine vj_aload_n G (p9 := 0) d_sLat_6 rfl rfl ?_
  refine vj_sgetf G0 (hE.1 i hi).2.1 qj_1957 d_sLat_7 ?_
  refine vj_if_ne G (x := 0) (tgt := 17) d_sLat_10 (by decide) ir_0 (fun c => absurd rfl c) (fun _ => ?_)
  refine vj_iconst G (v := 1) d_sLat_13 rfl ?_
  refine vj_goto G (tgt := 18) d_sLat_14 (by decide) ?_
  exact vj_tret G0 (v := 1) rfl ⟨by decide, by decide⟩ d_sLat_18
theorem ct_sLen (hij : ij LC w) {i : Nat} (hi : i < 7) : Ct LC w y_sLen b_sLen 1 (some .int) 1 30 1 [.ref (ws9 w i)] M (sLen (i : Int)) M := by
  refine Ct.of hij KstC (by decide +kernel) (Nat.le_of_ble_eq_true rfl) (fun X G0 => ?_)
  have G := G0.1
  show VJ LC w X 1 1 (sLen (i : Int)) M M [(0, .ref (ws9 w i))] [] 0
  obtain ⟨hE, -, hZ, -⟩ := gc_str G0
  refine vj_aload_n G (p9 := 0) d_sLen_0 rfl rfl ?_
  refine vj_sgetf G0 (hE.1 i hi).2.2.1 qj_1958 d_sLen_1 ?_
  refine vj_salen G0 (hE.1 i hi).2.2.2 d_sLen_4 ?_
  refine vj_aload_n G (p9 := 0) d_sLen_5 rfl rfl ?_
  refine vj_callVs G0 hi (ct_sCoder hij hi) rfl qj_722 cq_sCoder rfl (by decide) (by decide) (Nat.le_of_ble_eq_true rfl) d_sLen_6 rfl (fun _ => ?_)
  refine vj_ishr G d_sLen_9 ?_
  rw [(st_len0 i hi).1, st_len i hi]
  exact vj_iret G0 (ir_sLen _) d_sLen_10
theorem ct_pChk (hij : ij LC w) {v : Value} (hv : v = .null ∨ ∃ a, v = .ref a) {x y : Int} (hx : inR x) (hy : inR y) (h : 0 ≤ x ∧ x < y) : Ct LC w y_pChk b_pChk 3 (some .int) 0 0 1 [.int (i32 x), .int (i32 y), v] M x M := by
  refine Ct.of hij KstC (by decide +kernel) (by rcases hv with rfl | ⟨a, rfl⟩ <;> exact Nat.le_of_ble_eq_true rfl) (fun X G0 => ?_)
  have G := G0.1
  have e : lv_args 0 [.int (i32 x), .int (i32 y), v] = [(0, .int (i32 x)), (1, .int (i32 y)), (2, v)] := by rcases hv with rfl | ⟨a, rfl⟩ <;> rfl
  rw [e]
  refine vj_iload_n G (p9 := 0) d_pChk_0 rfl rfl ?_
  refine vj_if_lt G (tgt := 9) d_pChk_1 (by decide) hx (fun c => absurd c (by omega)) (fun _ => ?_)
  refine vj_iload_n G (p9 := 0) d_pChk_4 rfl rfl ?_
  refine vj_iload_n G (p9 := 1) d_pChk_5 rfl rfl ?_
  refine vj_icmp_lt G (tgt := 16) d_pChk_6 (by decide) hx hy (fun _ => ?_) (fun c => absurd h.2 c)
  refine vj_iload_n G (p9 := 0) d_pChk_16 rfl rfl ?_
  exact vj_iret G0 hx d_pChk_17
theorem ct_sChk (hij : ij LC w) {x y : Int} (hx : inR x) (hy : inR y) (h : 0 ≤ x ∧ x < y) : Ct LC w y_sChk b_sChk 2 none 1 30 0 [.int (i32 x), .int (i32 y)] M 0 M := by
  refine Ct.of hij KstC (by decide +kernel) (Nat.le_of_ble_eq_true rfl) (fun X G0 => ?_)
  have G := G0.1
  show VJ LC w X 2 0 0 M M [(0, .int (i32 x)), (1, .int (i32 y))] [] 0
  obtain ⟨-, -, -, hZ, -⟩ := gc_str G0
  refine vj_iload_n G (p9 := 0) d_sChk_0 rfl rfl ?_
  refine vj_iload_n G (p9 := 1) d_sChk_1 rfl rfl ?_
  have key : ∀ v : Value, (v = .null ∨ ∃ a, v = .ref a) → VJ LC w X 2 0 0 M M [(0, .int (i32 x)), (1, .int (i32 y))] [v, .int (i32 y), .int (i32 x)] 5 := by
    intro v hv
    refine vj_callS1 G (ct_pChk hij hv hx hy h) qj_692 cq_pChk rfl (by decide) (by decide) (Nat.le_of_ble_eq_true rfl) d_sChk_5 (by rcases hv with rfl | ⟨a, rfl⟩ <;> rfl) (fun _ => ?_)
    refine vj_pop G d_sChk_8 rfl ?_
    exact vj_vret G0 d_sChk_9
  rcases hZ with hZ | ⟨a, hZ⟩
  · exact vj_gets G0 hZ qj_690 d_sChk_2 (key _ (Or.inl rfl))
  · exact vj_gets G0 hZ qj_690 d_sChk_2 (key _ (Or.inr ⟨a, rfl⟩))
theorem ct_lCh (hij : ij LC w) {i : Nat} {j : Nat} (hi : i < 7) (hj : j < sLens.getD i 0) : Ct LC w y_lCh b_lCh 2 (some .char) 2 60 1 [.ref (ws9 w (i + 7)), .int (i32 (j : Int))] M (sCh (i : Int) (j : Int)) M := by
  refine Ct.of hij KstC (by decide +kernel) (Nat.le_of_ble_eq_true rfl) (fun X G0 => ?_)
  have G := G0.1
  show VJ LC w X 2 1 (sCh (i : Int) (j : Int)) M M [(0, .ref (ws9 w (i + 7))), (1, .int (i32 (j : Int)))] [] 0
  have hT := ((gc_str G0).1.1 i hi).2.2.2
  have hs := (st_len0 i hi).2
  obtain ⟨g1, g2, g3, g4, g5, g6⟩ := st_ch i hi j hj
  refine vj_iload_n G (p9 := 1) d_lCh_0 rfl rfl ?_
  refine vj_aload_n G (p9 := 0) d_lCh_1 rfl rfl ?_
  refine vj_salen G0 hT d_lCh_2 ?_
  refine vj_callS0 G (ct_sChk hij (ir_nat (by omega)) (ir_nat (by omega)) ⟨by omega, by omega⟩) qj_687 cq_sChk rfl (by decide) (by decide) (Nat.le_of_ble_eq_true rfl) d_lCh_3 rfl (fun _ => ?_)
  refine vj_aload_n G (p9 := 0) d_lCh_6 rfl rfl ?_
  refine vj_iload_n G (p9 := 1) d_lCh_7 rfl rfl ?_
  refine vj_sbald G0 hT ⟨by omega, by omega⟩ (by omega) (by rw [Int.toNat_natCast]; exact congrArg Value.int g1) d_lCh_8 ?_
  refine vj_sipush G (v := 255) d_lCh_9 rfl ?_
  refine vj_iand G d_lCh_12 ?_
  have e : ian (sCh (i : Int) (j : Int)) 255 = sCh (i : Int) (j : Int) := by
    have e1 : i32 (ian (sCh (i : Int) (j : Int)) 255) = i32 (sCh (i : Int) (j : Int)) := by
      rw [← i32_an, ← g1]; exact g2.trans g1.symm
    exact (i32_eq (ir_an _ _) ⟨by omega, by omega⟩).mp e1
  rw [e]
  refine vj_i2c G g3 d_lCh_13 ?_
  exact vj_tret G0 (by
    exact congrArg Value.int g6) ⟨by omega, by omega⟩ d_lCh_14
theorem ct_sCh (hij : ij LC w) {i : Nat} {j : Nat} (hi : i < 7) (hj : j < sLens.getD i 0) : Ct LC w y_sCh b_sCh 2 (some .char) 3 90 1 [.ref (ws9 w i), .int (i32 (j : Int))] M (sCh (i : Int) (j : Int)) M := by
  refine Ct.of hij KstC (by decide +kernel) (Nat.le_of_ble_eq_true rfl) (fun X G0 => ?_)
  have G := G0.1
  show VJ LC w X 2 1 (sCh (i : Int) (j : Int)) M M [(0, .ref (ws9 w i)), (1, .int (i32 (j : Int)))] [] 0
  obtain ⟨hE, -, hZ, -⟩ := gc_str G0
  refine vj_aload_n G (p9 := 0) d_sCh_0 rfl rfl ?_
  refine vj_callVs G0 hi (ct_sLat hij hi) rfl qj_678 cq_sLat rfl (by decide) (by decide) (Nat.le_of_ble_eq_true rfl) d_sCh_1 rfl (fun _ => ?_)
  refine vj_if_eq G (x := 1) (tgt := 16) d_sCh_4 (by decide) ⟨by decide, by decide⟩ (fun c => absurd c (by decide)) (fun _ => ?_)
  refine vj_aload_n G (p9 := 0) d_sCh_7 rfl rfl ?_
  refine vj_sgetf G0 (hE.1 i hi).2.2.1 qj_1958 d_sCh_8 ?_
  refine vj_iload_n G (p9 := 1) d_sCh_11 rfl rfl ?_
  refine vj_callS1 G (ct_lCh hij hi hj) qj_684 cq_lCh rfl (by decide) (by decide) (Nat.le_of_ble_eq_true rfl) d_sCh_12 rfl (fun h => ?_)
  exact vj_tret G0 (congrArg Value.int (st_ch i hi j hj).2.2.2.2.2) h d_sCh_15
theorem s_nat {s : Int} (h : 0 ≤ s ∧ s < 7) : ∃ i : Nat, i < 7 ∧ s = (i : Int) := ⟨s.toNat, by omega, by omega⟩
theorem vj_sLen (G0 : Gx LC w X own cc nL fr lo ret) {idx : Nat} {s : Int} (hs : 0 ≤ s ∧ s < 7) (q1 : Cond.methodLink own idx y_sLen ∈ ALL) (hf : 6 ≤ fr) (hlo : 200 ≤ lo) (h0 : 0 = 0) (hdg : decode cc pc = .ok (.invokevirtual idx, 3)) (kk : VJ LC w X nL t r M1 M lv (.int (i32 (sLen s)) :: st) (pc + 3)) (hW : (st.map fun v => v.category).sum ≤ 8 := by exact Nat.le_of_ble_eq_true rfl) : VJ LC w X nL t r M1 M lv (.ref (ws9 w s.toNat) :: st) pc := by
  obtain ⟨i, hi, rfl⟩ := s_nat hs
  rw [Int.toNat_natCast]
  exact vj_callVs G0 hi (ct_sLen (gx_ij G0.1) hi) rfl q1 cq_sLen rfl (by omega) (by omega) hW hdg rfl (fun _ => kk)
theorem vj_sChar (G0 : Gx LC w X own cc nL fr lo ret) {idx : Nat} {s x : Int} (hs : 0 ≤ s ∧ s < 7) (hx : 0 ≤ x ∧ x < sLen s) (q1 : Cond.methodLink own idx y_sCh ∈ ALL) (hf : 10 ≤ fr) (hlo : 400 ≤ lo) (h0 : 0 = 0) (hdg : decode cc pc = .ok (.invokevirtual idx, 3)) (kk : VJ LC w X nL t r M1 M lv (.int (i32 (sCh s x)) :: st) (pc + 3)) (hW : (st.map fun v => v.category).sum ≤ 8 := by exact Nat.le_of_ble_eq_true rfl) : VJ LC w X nL t r M1 M lv (.int (i32 x) :: .ref (ws9 w s.toNat) :: st) pc := by
  obtain ⟨i, hi, rfl⟩ := s_nat hs
  obtain ⟨j, rfl⟩ : ∃ j : Nat, x = (j : Int) := ⟨x.toNat, by omega⟩
  have hj : j < sLens.getD i 0 := by have := st_len i hi; omega
  rw [Int.toNat_natCast]
  exact vj_callVs G0 hi (ct_sCh (gx_ij G0.1) hi hj) rfl q1 cq_sCh rfl (by omega) (by omega) hW hdg rfl (fun _ => kk)
theorem vj_ldcS (G0 : Gx LC w X "WhoRules$Charters" cc nL fr lo ret) {idx : Nat} {v : Int} {tx : String} (hdg : decode cc pc = .ok (.ldc idx, 2)) (hq : KXC w (xs X) → vk_R "WhoRules$Charters" idx tx (ws9 w v.toNat) (xs X)) (kk : VJ LC w X nL t r M1 M lv (.ref (ws9 w v.toNat) :: st) (pc + 2)) : VJ LC w X nL t r M1 M lv st pc := by
  intro H locs ls hP hS hl
  have G := G0.1
  exact va_ldcS G.1 G.2.1 G.2.2.2.1 (hq (gc_str G0)) hdg (kk H locs ls hP hS hl)
theorem sr_0 {U : State} (h : KXC w U) : vk_R "WhoRules$Charters" 68 "need" (ws9 w (0 : Int).toNat) U := h.2.1.1
theorem sr_1 {U : State} (h : KXC w U) : vk_R "WhoRules$Charters" 70 "most" (ws9 w (1 : Int).toNat) U := h.2.1.2.1
theorem sr_2 {U : State} (h : KXC w U) : vk_R "WhoRules$Charters" 72 "old" (ws9 w (2 : Int).toNat) U := h.2.1.2.2.1
theorem sr_3 {U : State} (h : KXC w U) : vk_R "WhoRules$Charters" 74 "gold" (ws9 w (3 : Int).toNat) U := h.2.1.2.2.2.1
theorem sr_4 {U : State} (h : KXC w U) : vk_R "WhoRules$Charters" 76 "sleep" (ws9 w (4 : Int).toNat) U := h.2.1.2.2.2.2.1
theorem sr_5 {U : State} (h : KXC w U) : vk_R "WhoRules$Charters" 111 "khdpv" (ws9 w (5 : Int).toNat) U := h.2.1.2.2.2.2.2.1
theorem sr_6 {U : State} (h : KXC w U) : vk_R "WhoRules$Charters" 117 "<=>" (ws9 w (6 : Int).toNat) U := h.2.1.2.2.2.2.2.2
end WAITS
