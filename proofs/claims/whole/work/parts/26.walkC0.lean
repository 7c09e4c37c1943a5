/-! Written by wip/whole/gen. Walks. -/
set_option maxHeartbeats 4000000 in
set_option maxRecDepth 100000 in
theorem ct_JI_bitCount {w : Wd} (hij : ij LC w) (n : Nat) (x0 : Int) (hx0 : inR x0) {M : Mm} {r : Int} {M9 : Mm} (hF : f_JI_bitCount n x0 M = some (r, M9)) : Ct LC w y_JI_bitCount b_JI_bitCount 1 (some .int) 0 0 1 [.int (i32 x0)] M r M9 := by
  refine Ct.of hij KstC (by decide +kernel) (Nat.le_of_ble_eq_true rfl) (fun X G0 => ?_)
  have G := G0.1
  show VJ LC w X 1 1 r M9 M [(0, .int (i32 x0))] [] 0
  unfold f_JI_bitCount at hF
  refine vj_iload_n G (p9 := 0) d_JI_bitCount_0 rfl rfl ?_
  refine vj_iload_n G (p9 := 0) d_JI_bitCount_1 rfl rfl ?_
  refine vj_iconst G (v := 1) d_JI_bitCount_2 rfl ?_
  refine vj_iushr G d_JI_bitCount_3 ?_
  refine vj_ldcw G (v := 1431655765) d_JI_bitCount_4 q_1052 rfl ?_
  refine vj_iand G d_JI_bitCount_7 ?_
  refine vj_isub G d_JI_bitCount_8 ?_
  refine vj_istore_n G (lv2 := [(0, .int (i32 (w32 (x0 - (ian (isu x0 1) 1431655765)))))]) d_JI_bitCount_9 rfl (by decide) rfl ?_
  refine vj_iload_n G (p9 := 0) d_JI_bitCount_10 rfl rfl ?_
  refine vj_ldcw G (v := 858993459) d_JI_bitCount_11 q_1053 rfl ?_
  refine vj_iand G d_JI_bitCount_14 ?_
  refine vj_iload_n G (p9 := 0) d_JI_bitCount_15 rfl rfl ?_
  refine vj_iconst G (v := 2) d_JI_bitCount_16 rfl ?_
  refine vj_iushr G d_JI_bitCount_17 ?_
  refine vj_ldcw G (v := 858993459) d_JI_bitCount_18 q_1053 rfl ?_
  refine vj_iand G d_JI_bitCount_21 ?_
  refine vj_iadd G d_JI_bitCount_22 ?_
  refine vj_istore_n G (lv2 := [(0, .int (i32 (w32 ((ian (w32 (x0 - (ian (isu x0 1) 1431655765))) 858993459) + (ian (isu (w32 (x0 - (ian (isu x0 1) 1431655765))) 2) 858993459)))))]) d_JI_bitCount_23 rfl (by decide) rfl ?_
  refine vj_iload_n G (p9 := 0) d_JI_bitCount_24 rfl rfl ?_
  refine vj_iload_n G (p9 := 0) d_JI_bitCount_25 rfl rfl ?_
  refine vj_iconst G (v := 4) d_JI_bitCount_26 rfl ?_
  refine vj_iushr G d_JI_bitCount_27 ?_
  refine vj_iadd G d_JI_bitCount_28 ?_
  refine vj_ldcw G (v := 252645135) d_JI_bitCount_29 q_1054 rfl ?_
  refine vj_iand G d_JI_bitCount_32 ?_
  refine vj_istore_n G (lv2 := [(0, .int (i32 (ian (w32 ((w32 ((ian (w32 (x0 - (ian (isu x0 1) 1431655765))) 858993459) + (ian (isu (w32 (x0 - (ian (isu x0 1) 1431655765))) 2) 858993459))) + (isu (w32 ((ian (w32 (x0 - (ian (isu x0 1) 1431655765))) 858993459) + (ian (isu (w32 (x0 - (ian (isu x0 1) 1431655765))) 2) 858993459))) 4))) 252645135)))]) d_JI_bitCount_33 rfl (by decide) rfl ?_
  refine vj_iload_n G (p9 := 0) d_JI_bitCount_34 rfl rfl ?_
  refine vj_iload_n G (p9 := 0) d_JI_bitCount_35 rfl rfl ?_
  refine vj_bipush G (v := 8) d_JI_bitCount_36 rfl ?_
  refine vj_iushr G d_JI_bitCount_38 ?_
  refine vj_iadd G d_JI_bitCount_39 ?_
  refine vj_istore_n G (lv2 := [(0, .int (i32 (w32 ((ian (w32 ((w32 ((ian (w32 (x0 - (ian (isu x0 1) 1431655765))) 858993459) + (ian (isu (w32 (x0 - (ian (isu x0 1) 1431655765))) 2) 858993459))) + (isu (w32 ((ian (w32 (x0 - (ian (isu x0 1) 1431655765))) 858993459) + (ian (isu (w32 (x0 - (ian (isu x0 1) 1431655765))) 2) 858993459))) 4))) 252645135) + (isu (ian (w32 ((w32 ((ian (w32 (x0 - (ian (isu x0 1) 1431655765))) 858993459) + (ian (isu (w32 (x0 - (ian (isu x0 1) 1431655765))) 2) 858993459))) + (isu (w32 ((ian (w32 (x0 - (ian (isu x0 1) 1431655765))) 858993459) + (ian (isu (w32 (x0 - (ian (isu x0 1) 1431655765))) 2) 858993459))) 4))) 252645135) 8)))))]) d_JI_bitCount_40 rfl (by decide) rfl ?_
  refine vj_iload_n G (p9 := 0) d_JI_bitCount_41 rfl rfl ?_
  refine vj_iload_n G (p9 := 0) d_JI_bitCount_42 rfl rfl ?_
  refine vj_bipush G (v := 16) d_JI_bitCount_43 rfl ?_
  refine vj_iushr G d_JI_bitCount_45 ?_
  refine vj_iadd G d_JI_bitCount_46 ?_
  refine vj_istore_n G (lv2 := [(0, .int (i32 (w32 ((w32 ((ian (w32 ((w32 ((ian (w32 (x0 - (ian (isu x0 1) 1431655765))) 858993459) + (ian (isu (w32 (x0 - (ian (isu x0 1) 1431655765))) 2) 858993459))) + (isu (w32 ((ian (w32 (x0 - (ian (isu x0 1) 1431655765))) 858993459) + (ian (isu (w32 (x0 - (ian (isu x0 1) 1431655765))) 2) 858993459))) 4))) 252645135) + (isu (ian (w32 ((w32 ((ian (w32 (x0 - (ian (isu x0 1) 1431655765))) 858993459) + (ian (isu (w32 (x0 - (ian (isu x0 1) 1431655765))) 2) 858993459))) + (isu (w32 ((ian (w32 (x0 - (ian (isu x0 1) 1431655765))) 858993459) + (ian (isu (w32 (x0 - (ian (isu x0 1) 1431655765))) 2) 858993459))) 4))) 252645135) 8))) + (isu (w32 ((ian (w32 ((w32 ((ian (w32 (x0 - (ian (isu x0 1) 1431655765))) 858993459) + (ian (isu (w32 (x0 - (ian (isu x0 1) 1431655765))) 2) 858993459))) + (isu (w32 ((ian (w32 (x0 - (ian (isu x0 1) 1431655765))) 858993459) + (ian (isu (w32 (x0 - (ian (isu x0 1) 1431655765))) 2) 858993459))) 4))) 252645135) + (isu (ian (w32 ((w32 ((ian (w32 (x0 - (ian (isu x0 1) 1431655765))) 858993459) + (ian (isu (w32 (x0 - (ian (isu x0 1) 1431655765))) 2) 858993459))) + (isu (w32 ((ian (w32 (x0 - (ian (isu x0 1) 1431655765))) 858993459) + (ian (isu (w32 (x0 - (ian (isu x0 1) 1431655765))) 2) 858993459))) 4))) 252645135) 8))) 16)))))]) d_JI_bitCount_47 rfl (by decide) rfl ?_
  refine vj_iload_n G (p9 := 0) d_JI_bitCount_48 rfl rfl ?_
  refine vj_bipush G (v := 63) d_JI_bitCount_49 rfl ?_
  refine vj_iand G d_JI_bitCount_51 ?_
  cases hF
  exact vj_iret G0 (ir_an _ _) d_JI_bitCount_52
set_option maxHeartbeats 4000000 in
set_option maxRecDepth 100000 in
theorem ct_W_pass {w : Wd} (hij : ij LC w) (n : Nat) (x1 : Int) (hx1 : inR x1) {M : Mm} {r : Int} {M9 : Mm} (hF : f_W_pass n x1 M = some (r, M9)) : Ct LC w y_W_pass b_W_pass 2 (some .int) 0 0 1 [.ref (wa w 0), .int (i32 x1)] M r M9 := by
  refine Ct.of hij KstC (by decide +kernel) (Nat.le_of_ble_eq_true rfl) (fun X G0 => ?_)
  have G := G0.1
  show VJ LC w X 2 1 r M9 M [(0, .ref (wa w 0)), (1, .int (i32 x1))] [] 0
  unfold f_W_pass at hF
  refine vj_iload_n G (p9 := 1) d_W_pass_0 rfl rfl ?_
  refine vj_iconst G (v := 1) d_W_pass_1 rfl ?_
  refine vj_icmp_lt G (tgt := 26) d_W_pass_2 (by decide) hx1 ic_1 (fun c1 => ?_) (fun c1 => ?_)
  · rw [if_pos c1] at hF
    refine vj_bipush G (v := (-2)) d_W_pass_26 rfl ?_
    cases hF
    exact vj_iret G0 ic_m2 d_W_pass_28
  · rw [if_neg c1] at hF
    refine vj_iload_n G (p9 := 1) d_W_pass_5 rfl rfl ?_
    refine vj_bipush G (v := 99) d_W_pass_6 rfl ?_
    refine vj_icmp_gt G (tgt := 26) d_W_pass_8 (by decide) hx1 ic_99 (fun c2 => ?_) (fun c2 => ?_)
    · rw [if_pos c2] at hF
      refine vj_bipush G (v := (-2)) d_W_pass_26 rfl ?_
      cases hF
      exact vj_iret G0 ic_m2 d_W_pass_28
    · rw [if_neg c2] at hF
      refine vj_aload_n G (p9 := 0) d_W_pass_11 rfl rfl ?_
      refine gfC_W_18 G d_W_pass_12 ?_
      refine gfC_W_79 G d_W_pass_15 ?_
      refine vj_mr (fun hM3 => ?_)
      refine vj_iload_n G (p9 := 1) d_W_pass_18 rfl rfl ?_
      refine vj_iadd G d_W_pass_19 ?_
      refine vj_sipush G (v := 999) d_W_pass_20 rfl ?_
      refine vj_icmp_le G (tgt := 29) d_W_pass_23 (by decide) (ir_w _) ic_999 (fun c4 => ?_) (fun c4 => ?_)
      · rw [if_pos c4] at hF
        refine vj_aload_n G (p9 := 0) d_W_pass_29 rfl rfl ?_
        refine gfC_W_18 G d_W_pass_30 ?_
        refine vj_dup G d_W_pass_33 rfl ?_
        refine gfC_W_79 G d_W_pass_34 ?_
        refine vj_mr (fun hM5 => ?_)
        refine vj_iload_n G (p9 := 1) d_W_pass_37 rfl rfl ?_
        refine vj_iadd G d_W_pass_38 ?_
        refine pfC_W_79 G (ir_w _) d_W_pass_39 ?_
        refine vj_aload_n G (p9 := 0) d_W_pass_42 rfl rfl ?_
        refine gfC_W_18 G d_W_pass_43 ?_
        refine gfC_W_79 G d_W_pass_46 ?_
        refine vj_mr (fun hM6 => ?_)
        cases hF
        exact vj_iret G0 (mr_o hM6 lkC_1 flC_7_0) d_W_pass_49
      · rw [if_neg c4] at hF
        refine vj_bipush G (v := (-2)) d_W_pass_26 rfl ?_
        cases hF
        exact vj_iret G0 ic_m2 d_W_pass_28
set_option maxHeartbeats 4000000 in
set_option maxRecDepth 100000 in
theorem wk_R_isHolder_16 {w : Wd} {X : Cx} {r : Int} {M9 : Mm} (G0 : Gx LC w X "WhoRules$Register" b_R_isHolder 2 0 0 (some .boolean)) (n : Nat) (M : Mm) (hF : f_R_isHolder_16 n  M = some (r, M9)) : VJ LC w X 2 3 r M9 M [] [] 16 := by
  have G := G0.1
  unfold f_R_isHolder_16 at hF
  refine vj_iconst G (v := 0) d_R_isHolder_16 rfl ?_
  cases hF
  exact vj_zret G0 (Or.inl rfl) d_R_isHolder_17
set_option maxHeartbeats 4000000 in
set_option maxRecDepth 100000 in
theorem ct_R_isHolder {w : Wd} (hij : ij LC w) (n : Nat) (x1 : Int) (hx1 : inR x1) {M : Mm} {r : Int} {M9 : Mm} (hF : f_R_isHolder n x1 M = some (r, M9)) : Ct LC w y_R_isHolder b_R_isHolder 2 (some .boolean) 0 0 3 [.ref (wa w 1), .int (i32 x1)] M r M9 := by
  refine Ct.of hij KstC (by decide +kernel) (Nat.le_of_ble_eq_true rfl) (fun X G0 => ?_)
  have G := G0.1
  show VJ LC w X 2 3 r M9 M [(0, .ref (wa w 1)), (1, .int (i32 x1))] [] 0
  unfold f_R_isHolder at hF
  refine vj_iload_n G (p9 := 1) d_R_isHolder_0 rfl rfl ?_
  refine vj_if_lt G (tgt := 16) d_R_isHolder_1 (by decide) hx1 (fun c1 => ?_) (fun c1 => ?_)
  · rw [if_pos c1] at hF
    refine vj_sub [] rfl ?_
    exact wk_R_isHolder_16 G0 n    _ hF
  · rw [if_neg c1] at hF
    refine vj_iload_n G (p9 := 1) d_R_isHolder_4 rfl rfl ?_
    refine vj_aload_n G (p9 := 0) d_R_isHolder_5 rfl rfl ?_
    refine gfC_R_57 G d_R_isHolder_6 ?_
    refine vj_mr (fun hM2 => ?_)
    refine vj_icmp_ge G (tgt := 16) d_R_isHolder_9 (by decide) hx1 (mr_o hM2 lkC_1 flC_7_1) (fun c3 => ?_) (fun c3 => ?_)
    · rw [if_pos c3] at hF
      refine vj_sub [] rfl ?_
      exact wk_R_isHolder_16 G0 n    _ hF
    · rw [if_neg c3] at hF
      refine vj_iconst G (v := 1) d_R_isHolder_12 rfl ?_
      refine vj_goto G (tgt := 17) d_R_isHolder_13 (by decide) ?_
      cases hF
      exact vj_zret G0 (Or.inr rfl) d_R_isHolder_17
set_option maxHeartbeats 4000000 in
set_option maxRecDepth 100000 in
theorem wk_R_isFirm_22 {w : Wd} {X : Cx} {r : Int} {M9 : Mm} (G0 : Gx LC w X "WhoRules$Register" b_R_isFirm 2 1 21 (some .boolean)) (n : Nat) (M : Mm) (hF : f_R_isFirm_22 n  M = some (r, M9)) : VJ LC w X 2 3 r M9 M [] [] 22 := by
  have G := G0.1
  unfold f_R_isFirm_22 at hF
  refine vj_iconst G (v := 0) d_R_isFirm_22 rfl ?_
  cases hF
  exact vj_zret G0 (Or.inl rfl) d_R_isFirm_23
set_option maxHeartbeats 4000000 in
set_option maxRecDepth 100000 in
theorem ct_R_isFirm {w : Wd} (hij : ij LC w) (n : Nat) (x1 : Int) (hx1 : inR x1) {M : Mm} {r : Int} {M9 : Mm} (hF : f_R_isFirm n x1 M = some (r, M9)) : Ct LC w y_R_isFirm b_R_isFirm 2 (some .boolean) 1 21 3 [.ref (wa w 1), .int (i32 x1)] M r M9 := by
  refine Ct.of hij KstC (by decide +kernel) (Nat.le_of_ble_eq_true rfl) (fun X G0 => ?_)
  have G := G0.1
  show VJ LC w X 2 3 r M9 M [(0, .ref (wa w 1)), (1, .int (i32 x1))] [] 0
  unfold f_R_isFirm at hF
  refine vj_aload_n G (p9 := 0) d_R_isFirm_0 rfl rfl ?_
  refine vj_iload_n G (p9 := 1) d_R_isFirm_1 rfl rfl ?_
  obtain ⟨r1, M1, e1, hF⟩ := bnd_some hF
  refine vj_callV3 G (ct_R_isHolder (gx_ij G) n x1 hx1 e1) lkC_1 clC_7 rfl q_584 cq_R_isHolder rfl (by decide) (by decide) (Nat.le_of_ble_eq_true rfl) d_R_isFirm_2 rfl (fun hr1 => ?_)
  refine vj_if_eq G (tgt := 22) d_R_isFirm_5 (by decide) (ir_b hr1) (fun c2 => ?_) (fun c2 => ?_)
  · rw [if_pos c2] at hF
    refine vj_sub [] rfl ?_
    exact wk_R_isFirm_22 G0 n    _ hF
  · rw [if_neg c2] at hF
    refine vj_aload_n G (p9 := 0) d_R_isFirm_8 rfl rfl ?_
    refine gfC_R_17 G d_R_isFirm_9 ?_
    refine vj_iload_n G (p9 := 1) d_R_isFirm_12 rfl rfl ?_
    obtain ⟨c3, hF⟩ := ck_some hF
    refine vj_iald G (x := x1) lkC_17 (by decide) c3 d_R_isFirm_13 ?_
    refine vj_mr (fun hM4 => ?_)
    refine vj_iconst G (v := 1) d_R_isFirm_14 rfl ?_
    refine vj_icmp_ne G (tgt := 22) d_R_isFirm_15 (by decide) (mr_a hM4 lkC_17) ic_1 (fun c5 => ?_) (fun c5 => ?_)
    · rw [if_pos c5] at hF
      refine vj_sub [] rfl ?_
      exact wk_R_isFirm_22 G0 n    _ hF
    · rw [if_neg c5] at hF
      refine vj_iconst G (v := 1) d_R_isFirm_18 rfl ?_
      refine vj_goto G (tgt := 23) d_R_isFirm_19 (by decide) ?_
      cases hF
      exact vj_zret G0 (Or.inr rfl) d_R_isFirm_23
set_option maxHeartbeats 4000000 in
set_option maxRecDepth 100000 in
theorem wk_R_partsIn_33 {w : Wd} {X : Cx} {r : Int} {M9 : Mm} (G0 : Gx LC w X "WhoRules$Register" b_R_partsIn 4 0 0 (some .int)) (n : Nat) (k4 : Int → Int → Int → Mm → Rr) (hk4 : ∀ (x1 x2 x3 : Int) (hx1 : inR x1) (hx2 : inR x2) (hx3 : inR x3) (M : Mm), k4 x1 x2 x3 M = some (r, M9) → VJ LC w X 4 1 r M9 M [(0, .ref (wa w 1)), (1, .int (i32 x1)), (2, .int (i32 x2)), (3, .int (i32 x3))] [] 4) (x1 x3 s0 s1 : Int) (hx1 : inR x1) (hx3 : inR x3) (hs0 : inR s0) (hs1 : inR s1) (M : Mm) (hF : f_R_partsIn_33 n k4 x1 x3 s0 s1 M = some (r, M9)) : VJ LC w X 4 1 r M9 M [(0, .ref (wa w 1)), (1, .int (i32 x1)), (3, .int (i32 x3))] [.int (i32 s1), .int (i32 s0)] 33 := by
  have G := G0.1
  unfold f_R_partsIn_33 at hF
  refine vj_iadd G d_R_partsIn_33 ?_
  refine vj_istore_n G (lv2 := [(2, .int (i32 (w32 (s0 + s1)))), (0, .ref (wa w 1)), (1, .int (i32 x1)), (3, .int (i32 x3))]) d_R_partsIn_34 rfl (by decide) rfl ?_
  refine vj_iinc G (p9 := 3) (n := 1) (lv2 := [(3, .int (i32 (w32 (x3 + 1)))), (2, .int (i32 (w32 (s0 + s1)))), (0, .ref (wa w 1)), (1, .int (i32 x1))]) d_R_partsIn_35 rfl (by decide) rfl ?_
  refine vj_goto G (tgt := 4) d_R_partsIn_38 (by decide) ?_
  refine vj_sub [2, 3, 1, 0] rfl ?_
  exact hk4 x1 (w32 (s0 + s1)) (w32 (x3 + 1)) hx1 (ir_w _) (ir_w _) _ hF
set_option maxHeartbeats 4000000 in
set_option maxRecDepth 100000 in
theorem wk_R_partsIn_4 {w : Wd} {X : Cx} {r : Int} {M9 : Mm} (G0 : Gx LC w X "WhoRules$Register" b_R_partsIn 4 0 0 (some .int)) (n : Nat) (k4 : Int → Int → Int → Mm → Rr) (hk4 : ∀ (x1 x2 x3 : Int) (hx1 : inR x1) (hx2 : inR x2) (hx3 : inR x3) (M : Mm), k4 x1 x2 x3 M = some (r, M9) → VJ LC w X 4 1 r M9 M [(0, .ref (wa w 1)), (1, .int (i32 x1)), (2, .int (i32 x2)), (3, .int (i32 x3))] [] 4) (x1 x2 x3 : Int) (hx1 : inR x1) (hx2 : inR x2) (hx3 : inR x3) (M : Mm) (hF : f_R_partsIn_4 n k4 x1 x2 x3 M = some (r, M9)) : VJ LC w X 4 1 r M9 M [(0, .ref (wa w 1)), (1, .int (i32 x1)), (2, .int (i32 x2)), (3, .int (i32 x3))] [] 4 := by
  have G := G0.1
  unfold f_R_partsIn_4 at hF
  refine vj_iload_n G (p9 := 3) d_R_partsIn_4 rfl rfl ?_
  refine vj_aload_n G (p9 := 0) d_R_partsIn_5 rfl rfl ?_
  refine gfC_R_68 G d_R_partsIn_6 ?_
  refine vj_mr (fun hM1 => ?_)
  refine vj_icmp_ge G (tgt := 41) d_R_partsIn_9 (by decide) hx3 (mr_o hM1 lkC_1 flC_7_4) (fun c2 => ?_) (fun c2 => ?_)
  · rw [if_pos c2] at hF
    refine vj_iload_n G (p9 := 2) d_R_partsIn_41 rfl rfl ?_
    cases hF
    exact vj_iret G0 hx2 d_R_partsIn_42
  · rw [if_neg c2] at hF
    refine vj_iload_n G (p9 := 2) d_R_partsIn_12 rfl rfl ?_
    refine vj_aload_n G (p9 := 0) d_R_partsIn_13 rfl rfl ?_
    refine gfC_R_30 G d_R_partsIn_14 ?_
    refine vj_iload_n G (p9 := 3) d_R_partsIn_17 rfl rfl ?_
    obtain ⟨c3, hF⟩ := ck_some hF
    refine vj_iald G (x := x3) lkC_21 (by decide) c3 d_R_partsIn_18 ?_
    refine vj_mr (fun hM4 => ?_)
    refine vj_iload_n G (p9 := 1) d_R_partsIn_19 rfl rfl ?_
    refine vj_icmp_ne G (tgt := 32) d_R_partsIn_20 (by decide) (mr_a hM4 lkC_21) hx1 (fun c5 => ?_) (fun c5 => ?_)
    · rw [if_pos c5] at hF
      refine vj_iconst G (v := 0) d_R_partsIn_32 rfl ?_
      refine vj_sub [0, 1, 3] rfl ?_
      exact wk_R_partsIn_33 G0 n k4 hk4 x1 x3 x2 0 hx1 hx3 hx2 ic_0 _ hF
    · rw [if_neg c5] at hF
      refine vj_aload_n G (p9 := 0) d_R_partsIn_23 rfl rfl ?_
      refine gfC_R_33 G d_R_partsIn_24 ?_
      refine vj_iload_n G (p9 := 3) d_R_partsIn_27 rfl rfl ?_
      obtain ⟨c6, hF⟩ := ck_some hF
      refine vj_iald G (x := x3) lkC_22 (by decide) c6 d_R_partsIn_28 ?_
      refine vj_mr (fun hM7 => ?_)
      refine vj_goto G (tgt := 33) d_R_partsIn_29 (by decide) ?_
      refine vj_sub [0, 1, 3] rfl ?_
      exact wk_R_partsIn_33 G0 n k4 hk4 x1 x3 x2 (M 22 x3.toNat) hx1 hx3 hx2 (mr_a hM7 lkC_22) _ hF
set_option maxHeartbeats 4000000 in
set_option maxRecDepth 100000 in
theorem wl_R_partsIn_4 {w : Wd} {X : Cx} {r : Int} {M9 : Mm} (G0 : Gx LC w X "WhoRules$Register" b_R_partsIn 4 0 0 (some .int)) (n : Nat) : ∀ (f : Nat) (x1 x2 x3 : Int) (hx1 : inR x1) (hx2 : inR x2) (hx3 : inR x3) (M : Mm), lp_R_partsIn_4 n f x1 x2 x3 M = some (r, M9) → VJ LC w X 4 1 r M9 M [(0, .ref (wa w 1)), (1, .int (i32 x1)), (2, .int (i32 x2)), (3, .int (i32 x3))] [] 4 := by
  intro f
  induction f with
  | zero => intro x1 x2 x3 hx1 hx2 hx3 M hF; cases hF
  | succ f ih => intro x1 x2 x3 hx1 hx2 hx3 M hF; exact wk_R_partsIn_4 G0 n (lp_R_partsIn_4 n f) ih x1 x2 x3 hx1 hx2 hx3 M hF
set_option maxHeartbeats 4000000 in
set_option maxRecDepth 100000 in
theorem ct_R_partsIn {w : Wd} (hij : ij LC w) (n : Nat) (x1 : Int) (hx1 : inR x1) {M : Mm} {r : Int} {M9 : Mm} (hF : f_R_partsIn n x1 M = some (r, M9)) : Ct LC w y_R_partsIn b_R_partsIn 4 (some .int) 0 0 1 [.ref (wa w 1), .int (i32 x1)] M r M9 := by
  refine Ct.of hij KstC (by decide +kernel) (Nat.le_of_ble_eq_true rfl) (fun X G0 => ?_)
  have G := G0.1
  show VJ LC w X 4 1 r M9 M [(0, .ref (wa w 1)), (1, .int (i32 x1))] [] 0
  unfold f_R_partsIn at hF
  refine vj_iconst G (v := 0) d_R_partsIn_0 rfl ?_
  refine vj_istore_n G (lv2 := [(2, .int (i32 0)), (0, .ref (wa w 1)), (1, .int (i32 x1))]) d_R_partsIn_1 rfl (by decide) rfl ?_
  refine vj_iconst G (v := 0) d_R_partsIn_2 rfl ?_
  refine vj_istore_n G (lv2 := [(3, .int (i32 0)), (2, .int (i32 0)), (0, .ref (wa w 1)), (1, .int (i32 x1))]) d_R_partsIn_3 rfl (by decide) rfl ?_
  refine vj_sub [2, 3, 1, 0] rfl ?_
  exact wl_R_partsIn_4 G0 n  n x1 0 0 hx1 ic_0 ic_0 _ hF
set_option maxHeartbeats 4000000 in
set_option maxRecDepth 100000 in
theorem ct_R_move {w : Wd} (hij : ij LC w) (n : Nat) (x1 x2 : Int) (hx1 : inR x1) (hx2 : inR x2) {M : Mm} {r : Int} {M9 : Mm} (hF : f_R_move n x1 x2 M = some (r, M9)) : Ct LC w y_R_move b_R_move 3 none 0 0 0 [.ref (wa w 1), .int (i32 x1), .int (i32 x2)] M r M9 := by
  refine Ct.of hij KstC (by decide +kernel) (Nat.le_of_ble_eq_true rfl) (fun X G0 => ?_)
  have G := G0.1
  show VJ LC w X 3 0 r M9 M [(0, .ref (wa w 1)), (1, .int (i32 x1)), (2, .int (i32 x2))] [] 0
  unfold f_R_move at hF
  refine vj_aload_n G (p9 := 0) d_R_move_0 rfl rfl ?_
  refine gfC_R_115 G d_R_move_1 ?_
  refine vj_mr (fun hM1 => ?_)
  refine vj_sipush G (v := 160) d_R_move_4 rfl ?_
  refine vj_icmp_ge G (tgt := 53) d_R_move_7 (by decide) (mr_o hM1 lkC_1 flC_7_16) ic_160 (fun c2 => ?_) (fun c2 => ?_)
  · rw [if_pos c2] at hF
    cases hF
    exact vj_vret G0 d_R_move_53
  · rw [if_neg c2] at hF
    refine vj_aload_n G (p9 := 0) d_R_move_10 rfl rfl ?_
    refine gfC_R_48 G d_R_move_11 ?_
    refine vj_aload_n G (p9 := 0) d_R_move_14 rfl rfl ?_
    refine gfC_R_115 G d_R_move_15 ?_
    refine vj_mr (fun hM3 => ?_)
    refine vj_iload_n G (p9 := 1) d_R_move_18 rfl rfl ?_
    obtain ⟨c4, hF⟩ := ck_some hF
    refine vj_iast G (x := (M 1 16)) lkC_27 (by decide) (by decide) (by decide) c4 hx1 d_R_move_19 ?_
    refine vj_aload_n G (p9 := 0) d_R_move_20 rfl rfl ?_
    refine gfC_R_51 G d_R_move_21 ?_
    refine vj_aload_n G (p9 := 0) d_R_move_24 rfl rfl ?_
    refine gfC_R_115 G d_R_move_25 ?_
    refine vj_mr (fun hM5 => ?_)
    refine vj_iload_n G (p9 := 2) d_R_move_28 rfl rfl ?_
    obtain ⟨c6, hF⟩ := ck_some hF
    refine vj_iast G (x := ((mset M 27 (M 1 16).toNat x1) 1 16)) lkC_28 (by decide) (by decide) (by decide) c6 hx2 d_R_move_29 ?_
    refine vj_aload_n G (p9 := 0) d_R_move_30 rfl rfl ?_
    refine gfC_R_54 G d_R_move_31 ?_
    refine vj_aload_n G (p9 := 0) d_R_move_34 rfl rfl ?_
    refine gfC_R_115 G d_R_move_35 ?_
    refine vj_mr (fun hM7 => ?_)
    refine vj_aload_n G (p9 := 0) d_R_move_38 rfl rfl ?_
    refine gfC_R_118 G d_R_move_39 ?_
    obtain ⟨c8, hF⟩ := ck_some hF
    refine vj_iast G (x := ((mset (mset M 27 (M 1 16).toNat x1) 28 ((mset M 27 (M 1 16).toNat x1) 1 16).toNat x2) 1 16)) lkC_29 (by decide) (by decide) (by decide) c8 (mr_o hM7 lkC_1 flC_7_0) d_R_move_42 ?_
    refine vj_aload_n G (p9 := 0) d_R_move_43 rfl rfl ?_
    refine vj_dup G d_R_move_44 rfl ?_
    refine gfC_R_115 G d_R_move_45 ?_
    refine vj_mr (fun hM9 => ?_)
    refine vj_iconst G (v := 1) d_R_move_48 rfl ?_
    refine vj_iadd G d_R_move_49 ?_
    refine pfC_R_115 G (ir_w _) d_R_move_50 ?_
    cases hF
    exact vj_vret G0 d_R_move_53
set_option maxHeartbeats 4000000 in
set_option maxRecDepth 100000 in
theorem ct_R_issue {w : Wd} (hij : ij LC w) (n : Nat) (x1 x2 x3 x4 : Int) (hx1 : inR x1) (hx2 : inR x2) (hx3 : inR x3) (hx4 : inR x4) {M : Mm} {r : Int} {M9 : Mm} (hF : f_R_issue n x1 x2 x3 x4 M = some (r, M9)) : Ct LC w y_R_issue b_R_issue 6 (some .int) 1 22 1 [.ref (wa w 1), .int (i32 x1), .int (i32 x2), .int (i32 x3), .int (i32 x4)] M r M9 := by
  refine Ct.of hij KstC (by decide +kernel) (Nat.le_of_ble_eq_true rfl) (fun X G0 => ?_)
  have G := G0.1
  show VJ LC w X 6 1 r M9 M [(0, .ref (wa w 1)), (1, .int (i32 x1)), (2, .int (i32 x2)), (3, .int (i32 x3)), (4, .int (i32 x4))] [] 0
  unfold f_R_issue at hF
  refine vj_aload_n G (p9 := 0) d_R_issue_0 rfl rfl ?_
  refine gfC_R_68 G d_R_issue_1 ?_
  refine vj_mr (fun hM1 => ?_)
  refine vj_bipush G (v := 40) d_R_issue_4 rfl ?_
  refine vj_icmp_lt G (tgt := 12) d_R_issue_6 (by decide) (mr_o hM1 lkC_1 flC_7_4) ic_40 (fun c2 => ?_) (fun c2 => ?_)
  · rw [if_pos c2] at hF
    refine vj_aload_n G (p9 := 0) d_R_issue_12 rfl rfl ?_
    refine gfC_R_68 G d_R_issue_13 ?_
    refine vj_mr (fun hM3 => ?_)
    refine vj_istore G (lv2 := [(5, .int (i32 (M 1 4))), (0, .ref (wa w 1)), (1, .int (i32 x1)), (2, .int (i32 x2)), (3, .int (i32 x3)), (4, .int (i32 x4))]) d_R_issue_16 (by decide) rfl ?_
    refine vj_aload_n G (p9 := 1) d_R_issue_18 rfl rfl ?_
    refine gfC_R_30 G d_R_issue_19 ?_
    refine vj_iload G (p9 := 0) d_R_issue_22 rfl ?_
    refine vj_iload_n G (p9 := 2) d_R_issue_24 rfl rfl ?_
    obtain ⟨c4, hF⟩ := ck_some hF
    refine vj_iast G (x := (M 1 4)) lkC_21 (by decide) (by decide) (by decide) c4 hx1 d_R_issue_25 ?_
    refine vj_aload_n G (p9 := 1) d_R_issue_26 rfl rfl ?_
    refine gfC_R_33 G d_R_issue_27 ?_
    refine vj_iload G (p9 := 0) d_R_issue_30 rfl ?_
    refine vj_iload_n G (p9 := 4) d_R_issue_32 rfl rfl ?_
    obtain ⟨c5, hF⟩ := ck_some hF
    refine vj_iast G (x := (M 1 4)) lkC_22 (by decide) (by decide) (by decide) c5 hx3 d_R_issue_33 ?_
    refine vj_aload_n G (p9 := 1) d_R_issue_34 rfl rfl ?_
    refine gfC_R_36 G d_R_issue_35 ?_
    refine vj_iload G (p9 := 0) d_R_issue_38 rfl ?_
    refine vj_iload G (p9 := 5) d_R_issue_40 rfl ?_
    obtain ⟨c6, hF⟩ := ck_some hF
    refine vj_iast G (x := (M 1 4)) lkC_23 (by decide) (by decide) (by decide) c6 hx4 d_R_issue_42 ?_
    refine vj_aload_n G (p9 := 1) d_R_issue_43 rfl rfl ?_
    refine vj_dup G d_R_issue_44 rfl ?_
    refine gfC_R_68 G d_R_issue_45 ?_
    refine vj_mr (fun hM7 => ?_)
    refine vj_iconst G (v := 1) d_R_issue_48 rfl ?_
    refine vj_iadd G d_R_issue_49 ?_
    refine pfC_R_68 G (ir_w _) d_R_issue_50 ?_
    refine vj_aload_n G (p9 := 1) d_R_issue_53 rfl rfl ?_
    refine vj_iload G (p9 := 0) d_R_issue_54 rfl ?_
    refine vj_iload_n G (p9 := 3) d_R_issue_56 rfl rfl ?_
    obtain ⟨r8, M8, e8, hF⟩ := bnd_some hF
    refine vj_callV0 G (ct_R_move (gx_ij G) n (M 1 4) x2 (mr_o hM3 lkC_1 flC_7_4) hx2 e8) lkC_1 clC_7 rfl q_605 cq_R_move rfl (by decide) (by decide) (Nat.le_of_ble_eq_true rfl) d_R_issue_57 rfl (fun hr8 => ?_)
    refine vj_iload G (p9 := 0) d_R_issue_60 rfl ?_
    cases hF
    exact vj_iret G0 (mr_o hM3 lkC_1 flC_7_4) d_R_issue_62
  · rw [if_neg c2] at hF
    refine vj_bipush G (v := (-4)) d_R_issue_9 rfl ?_
    cases hF
    exact vj_iret G0 ic_m4 d_R_issue_11
set_option maxHeartbeats 4000000 in
set_option maxRecDepth 100000 in
theorem ct_W_share {w : Wd} (hij : ij LC w) (n : Nat) (x1 x2 x3 x4 : Int) (hx1 : inR x1) (hx2 : inR x2) (hx3 : inR x3) (hx4 : inR x4) {M : Mm} {r : Int} {M9 : Mm} (hF : f_W_share n x1 x2 x3 x4 M = some (r, M9)) : Ct LC w y_W_share b_W_share 5 (some .int) 2 47 1 [.ref (wa w 0), .int (i32 x1), .int (i32 x2), .int (i32 x3), .int (i32 x4)] M r M9 := by
  refine Ct.of hij KstC (by decide +kernel) (Nat.le_of_ble_eq_true rfl) (fun X G0 => ?_)
  have G := G0.1
  show VJ LC w X 5 1 r M9 M [(0, .ref (wa w 0)), (1, .int (i32 x1)), (2, .int (i32 x2)), (3, .int (i32 x3)), (4, .int (i32 x4))] [] 0
  unfold f_W_share at hF
  refine vj_aload_n G (p9 := 0) d_W_share_0 rfl rfl ?_
  refine gfC_W_18 G d_W_share_1 ?_
  refine vj_iload_n G (p9 := 1) d_W_share_4 rfl rfl ?_
  obtain ⟨r1, M1, e1, hF⟩ := bnd_some hF
  refine vj_callV3 G (ct_R_isFirm (gx_ij G) n x1 hx1 e1) lkC_1 clC_7 rfl q_592 cq_R_isFirm rfl (by decide) (by decide) (Nat.le_of_ble_eq_true rfl) d_W_share_5 rfl (fun hr1 => ?_)
  refine vj_if_eq G (tgt := 22) d_W_share_8 (by decide) (ir_b hr1) (fun c2 => ?_) (fun c2 => ?_)
  · rw [if_pos c2] at hF
    refine vj_iconst G (v := (-1)) d_W_share_22 rfl ?_
    cases hF
    exact vj_iret G0 ic_m1 d_W_share_23
  · rw [if_neg c2] at hF
    refine vj_aload_n G (p9 := 0) d_W_share_11 rfl rfl ?_
    refine gfC_W_18 G d_W_share_12 ?_
    refine vj_iload_n G (p9 := 2) d_W_share_15 rfl rfl ?_
    obtain ⟨r3, M3, e3, hF⟩ := bnd_some hF
    refine vj_callV3 G (ct_R_isHolder (gx_ij G) n x2 hx2 e3) lkC_1 clC_7 rfl q_596 cq_R_isHolder rfl (by decide) (by decide) (Nat.le_of_ble_eq_true rfl) d_W_share_16 rfl (fun hr3 => ?_)
    refine vj_if_ne G (tgt := 24) d_W_share_19 (by decide) (ir_b hr3) (fun c4 => ?_) (fun c4 => ?_)
    · rw [if_pos c4] at hF
      refine vj_iload_n G (p9 := 3) d_W_share_24 rfl rfl ?_
      refine vj_if_lt G (tgt := 46) d_W_share_25 (by decide) hx3 (fun c5 => ?_) (fun c5 => ?_)
      · rw [if_pos c5] at hF
        refine vj_bipush G (v := (-2)) d_W_share_46 rfl ?_
        cases hF
        exact vj_iret G0 ic_m2 d_W_share_48
      · rw [if_neg c5] at hF
        refine vj_iload_n G (p9 := 3) d_W_share_28 rfl rfl ?_
        refine vj_bipush G (v := 12) d_W_share_29 rfl ?_
        refine vj_icmp_gt G (tgt := 46) d_W_share_31 (by decide) hx3 ic_12 (fun c6 => ?_) (fun c6 => ?_)
        · rw [if_pos c6] at hF
          refine vj_bipush G (v := (-2)) d_W_share_46 rfl ?_
          cases hF
          exact vj_iret G0 ic_m2 d_W_share_48
        · rw [if_neg c6] at hF
          refine vj_iload G (p9 := 4) d_W_share_34 rfl ?_
          refine vj_if_lt G (tgt := 46) d_W_share_36 (by decide) hx4 (fun c7 => ?_) (fun c7 => ?_)
          · rw [if_pos c7] at hF
            refine vj_bipush G (v := (-2)) d_W_share_46 rfl ?_
            cases hF
            exact vj_iret G0 ic_m2 d_W_share_48
          · rw [if_neg c7] at hF
            refine vj_iload G (p9 := 4) d_W_share_39 rfl ?_
            refine vj_bipush G (v := 99) d_W_share_41 rfl ?_
            refine vj_icmp_le G (tgt := 49) d_W_share_43 (by decide) hx4 ic_99 (fun c8 => ?_) (fun c8 => ?_)
            · rw [if_pos c8] at hF
              refine vj_aload_n G (p9 := 0) d_W_share_49 rfl rfl ?_
              refine gfC_W_18 G d_W_share_50 ?_
              refine vj_iload_n G (p9 := 1) d_W_share_53 rfl rfl ?_
              obtain ⟨r9, M9, e9, hF⟩ := bnd_some hF
              refine vj_callV1 G (ct_R_partsIn (gx_ij G) n x1 hx1 e9) lkC_1 clC_7 rfl q_597 cq_R_partsIn rfl (by decide) (by decide) (Nat.le_of_ble_eq_true rfl) d_W_share_54 rfl (fun hr9 => ?_)
              refine vj_iload_n G (p9 := 3) d_W_share_57 rfl rfl ?_
              refine vj_iadd G d_W_share_58 ?_
              refine vj_bipush G (v := 12) d_W_share_59 rfl ?_
              refine vj_icmp_le G (tgt := 67) d_W_share_61 (by decide) (ir_w _) ic_12 (fun c10 => ?_) (fun c10 => ?_)
              · rw [if_pos c10] at hF
                refine vj_aload_n G (p9 := 0) d_W_share_67 rfl rfl ?_
                refine gfC_W_18 G d_W_share_68 ?_
                refine vj_iload_n G (p9 := 1) d_W_share_71 rfl rfl ?_
                refine vj_iload_n G (p9 := 2) d_W_share_72 rfl rfl ?_
                refine vj_iload_n G (p9 := 3) d_W_share_73 rfl rfl ?_
                refine vj_iload G (p9 := 4) d_W_share_74 rfl ?_
                obtain ⟨r11, M11, e11, hF⟩ := bnd_some hF
                refine vj_callV1 G (ct_R_issue (gx_ij G) n x1 x2 x3 x4 hx1 hx2 hx3 hx4 e11) lkC_1 clC_7 rfl q_601 cq_R_issue rfl (by decide) (by decide) (Nat.le_of_ble_eq_true rfl) d_W_share_76 rfl (fun hr11 => ?_)
                cases hF
                exact vj_iret G0 hr11 d_W_share_79
              · rw [if_neg c10] at hF
                refine vj_bipush G (v := (-3)) d_W_share_64 rfl ?_
                cases hF
                exact vj_iret G0 ic_m3 d_W_share_66
            · rw [if_neg c8] at hF
              refine vj_bipush G (v := (-2)) d_W_share_46 rfl ?_
              cases hF
              exact vj_iret G0 ic_m2 d_W_share_48
    · rw [if_neg c4] at hF
      refine vj_iconst G (v := (-1)) d_W_share_22 rfl ?_
      cases hF
      exact vj_iret G0 ic_m1 d_W_share_23
set_option maxHeartbeats 4000000 in
set_option maxRecDepth 100000 in
theorem wk_R_isShare_16 {w : Wd} {X : Cx} {r : Int} {M9 : Mm} (G0 : Gx LC w X "WhoRules$Register" b_R_isShare 2 0 0 (some .boolean)) (n : Nat) (M : Mm) (hF : f_R_isShare_16 n  M = some (r, M9)) : VJ LC w X 2 3 r M9 M [] [] 16 := by
  have G := G0.1
  unfold f_R_isShare_16 at hF
  refine vj_iconst G (v := 0) d_R_isShare_16 rfl ?_
  cases hF
  exact vj_zret G0 (Or.inl rfl) d_R_isShare_17
set_option maxHeartbeats 4000000 in
set_option maxRecDepth 100000 in
theorem ct_R_isShare {w : Wd} (hij : ij LC w) (n : Nat) (x1 : Int) (hx1 : inR x1) {M : Mm} {r : Int} {M9 : Mm} (hF : f_R_isShare n x1 M = some (r, M9)) : Ct LC w y_R_isShare b_R_isShare 2 (some .boolean) 0 0 3 [.ref (wa w 1), .int (i32 x1)] M r M9 := by
  refine Ct.of hij KstC (by decide +kernel) (Nat.le_of_ble_eq_true rfl) (fun X G0 => ?_)
  have G := G0.1
  show VJ LC w X 2 3 r M9 M [(0, .ref (wa w 1)), (1, .int (i32 x1))] [] 0
  unfold f_R_isShare at hF
  refine vj_iload_n G (p9 := 1) d_R_isShare_0 rfl rfl ?_
  refine vj_if_lt G (tgt := 16) d_R_isShare_1 (by decide) hx1 (fun c1 => ?_) (fun c1 => ?_)
  · rw [if_pos c1] at hF
    refine vj_sub [] rfl ?_
    exact wk_R_isShare_16 G0 n    _ hF
  · rw [if_neg c1] at hF
    refine vj_iload_n G (p9 := 1) d_R_isShare_4 rfl rfl ?_
    refine vj_aload_n G (p9 := 0) d_R_isShare_5 rfl rfl ?_
    refine gfC_R_68 G d_R_isShare_6 ?_
    refine vj_mr (fun hM2 => ?_)
    refine vj_icmp_ge G (tgt := 16) d_R_isShare_9 (by decide) hx1 (mr_o hM2 lkC_1 flC_7_4) (fun c3 => ?_) (fun c3 => ?_)
    · rw [if_pos c3] at hF
      refine vj_sub [] rfl ?_
      exact wk_R_isShare_16 G0 n    _ hF
    · rw [if_neg c3] at hF
      refine vj_iconst G (v := 1) d_R_isShare_12 rfl ?_
      refine vj_goto G (tgt := 17) d_R_isShare_13 (by decide) ?_
      cases hF
      exact vj_zret G0 (Or.inr rfl) d_R_isShare_17
set_option maxHeartbeats 4000000 in
set_option maxRecDepth 100000 in
theorem ct_W_price {w : Wd} (hij : ij LC w) (n : Nat) (x1 x2 : Int) (hx1 : inR x1) (hx2 : inR x2) {M : Mm} {r : Int} {M9 : Mm} (hF : f_W_price n x1 x2 M = some (r, M9)) : Ct LC w y_W_price b_W_price 4 (some .int) 1 21 1 [.ref (wa w 0), .int (i32 x1), .int (i32 x2)] M r M9 := by
  refine Ct.of hij KstC (by decide +kernel) (Nat.le_of_ble_eq_true rfl) (fun X G0 => ?_)
  have G := G0.1
  show VJ LC w X 4 1 r M9 M [(0, .ref (wa w 0)), (1, .int (i32 x1)), (2, .int (i32 x2))] [] 0
  unfold f_W_price at hF
  refine vj_aload_n G (p9 := 0) d_W_price_0 rfl rfl ?_
  refine gfC_W_18 G d_W_price_1 ?_
  refine vj_iload_n G (p9 := 1) d_W_price_4 rfl rfl ?_
  obtain ⟨r1, M1, e1, hF⟩ := bnd_some hF
  refine vj_callV3 G (ct_R_isShare (gx_ij G) n x1 hx1 e1) lkC_1 clC_7 rfl q_613 cq_R_isShare rfl (by decide) (by decide) (Nat.le_of_ble_eq_true rfl) d_W_price_5 rfl (fun hr1 => ?_)
  refine vj_if_ne G (tgt := 13) d_W_price_8 (by decide) (ir_b hr1) (fun c2 => ?_) (fun c2 => ?_)
  · rw [if_pos c2] at hF
    refine vj_iload_n G (p9 := 2) d_W_price_13 rfl rfl ?_
    refine vj_if_lt G (tgt := 24) d_W_price_14 (by decide) hx2 (fun c3 => ?_) (fun c3 => ?_)
    · rw [if_pos c3] at hF
      refine vj_bipush G (v := (-2)) d_W_price_24 rfl ?_
      cases hF
      exact vj_iret G0 ic_m2 d_W_price_26
    · rw [if_neg c3] at hF
      refine vj_iload_n G (p9 := 2) d_W_price_17 rfl rfl ?_
      refine vj_sipush G (v := 999) d_W_price_18 rfl ?_
      refine vj_icmp_le G (tgt := 27) d_W_price_21 (by decide) hx2 ic_999 (fun c4 => ?_) (fun c4 => ?_)
      · rw [if_pos c4] at hF
        refine vj_aload_n G (p9 := 0) d_W_price_27 rfl rfl ?_
        refine gfC_W_18 G d_W_price_28 ?_
        refine gfC_W_105 G d_W_price_31 ?_
        refine vj_iload_n G (p9 := 1) d_W_price_34 rfl rfl ?_
        obtain ⟨c5, hF⟩ := ck_some hF
        refine vj_iald G (x := x1) lkC_24 (by decide) c5 d_W_price_35 ?_
        refine vj_mr (fun hM6 => ?_)
        refine vj_istore_n G (lv2 := [(3, .int (i32 (M1 24 x1.toNat))), (0, .ref (wa w 0)), (1, .int (i32 x1)), (2, .int (i32 x2))]) d_W_price_36 rfl (by decide) rfl ?_
        refine vj_aload_n G (p9 := 1) d_W_price_37 rfl rfl ?_
        refine gfC_W_18 G d_W_price_38 ?_
        refine gfC_W_105 G d_W_price_41 ?_
        refine vj_iload_n G (p9 := 2) d_W_price_44 rfl rfl ?_
        refine vj_iload_n G (p9 := 3) d_W_price_45 rfl rfl ?_
        obtain ⟨c7, hF⟩ := ck_some hF
        refine vj_iast G (x := x1) lkC_24 (by decide) (by decide) (by decide) c7 hx2 d_W_price_46 ?_
        refine vj_iload_n G (p9 := 0) d_W_price_47 rfl rfl ?_
        cases hF
        exact vj_iret G0 (mr_a hM6 lkC_24) d_W_price_48
      · rw [if_neg c4] at hF
        refine vj_bipush G (v := (-2)) d_W_price_24 rfl ?_
        cases hF
        exact vj_iret G0 ic_m2 d_W_price_26
  · rw [if_neg c2] at hF
    refine vj_iconst G (v := (-1)) d_W_price_11 rfl ?_
    cases hF
    exact vj_iret G0 ic_m1 d_W_price_12
set_option maxHeartbeats 4000000 in
set_option maxRecDepth 100000 in
theorem wk_R_lookAt_20 {w : Wd} {X : Cx} {r : Int} {M9 : Mm} (G0 : Gx LC w X "WhoRules$Register" b_R_lookAt 3 1 23 none) (n : Nat) (k20 : Int → Int → Mm → Rr) (hk20 : ∀ (x1 x2 : Int) (hx1 : inR x1) (hx2 : inR x2) (M : Mm), k20 x1 x2 M = some (r, M9) → VJ LC w X 3 0 r M9 M [(0, .ref (wa w 1)), (1, .int (i32 x1)), (2, .int (i32 x2))] [] 20) (x1 x2 : Int) (hx1 : inR x1) (hx2 : inR x2) (M : Mm) (hF : f_R_lookAt_20 n k20 x1 x2 M = some (r, M9)) : VJ LC w X 3 0 r M9 M [(0, .ref (wa w 1)), (1, .int (i32 x1)), (2, .int (i32 x2))] [] 20 := by
  have G := G0.1
  unfold f_R_lookAt_20 at hF
  refine vj_iload_n G (p9 := 2) d_R_lookAt_20 rfl rfl ?_
  refine vj_aload_n G (p9 := 0) d_R_lookAt_21 rfl rfl ?_
  refine gfC_R_115 G d_R_lookAt_22 ?_
  refine vj_mr (fun hM1 => ?_)
  refine vj_icmp_ge G (tgt := 78) d_R_lookAt_25 (by decide) hx2 (mr_o hM1 lkC_1 flC_7_16) (fun c2 => ?_) (fun c2 => ?_)
  · rw [if_pos c2] at hF
    cases hF
    exact vj_vret G0 d_R_lookAt_78
  · rw [if_neg c2] at hF
    refine vj_aload_n G (p9 := 0) d_R_lookAt_28 rfl rfl ?_
    refine gfC_R_54 G d_R_lookAt_29 ?_
    refine vj_iload_n G (p9 := 2) d_R_lookAt_32 rfl rfl ?_
    obtain ⟨c3, hF⟩ := ck_some hF
    refine vj_iald G (x := x2) lkC_29 (by decide) c3 d_R_lookAt_33 ?_
    refine vj_mr (fun hM4 => ?_)
    refine vj_iload_n G (p9 := 1) d_R_lookAt_34 rfl rfl ?_
    refine vj_icmp_gt G (tgt := 78) d_R_lookAt_35 (by decide) (mr_a hM4 lkC_29) hx1 (fun c5 => ?_) (fun c5 => ?_)
    · rw [if_pos c5] at hF
      cases hF
      exact vj_vret G0 d_R_lookAt_78
    · rw [if_neg c5] at hF
      refine vj_aload_n G (p9 := 0) d_R_lookAt_38 rfl rfl ?_
      refine gfC_R_42 G d_R_lookAt_39 ?_
      refine vj_aload_n G (p9 := 0) d_R_lookAt_42 rfl rfl ?_
      refine gfC_R_48 G d_R_lookAt_43 ?_
      refine vj_iload_n G (p9 := 2) d_R_lookAt_46 rfl rfl ?_
      obtain ⟨c6, hF⟩ := ck_some hF
      refine vj_iald G (x := x2) lkC_27 (by decide) c6 d_R_lookAt_47 ?_
      refine vj_mr (fun hM7 => ?_)
      refine vj_aload_n G (p9 := 0) d_R_lookAt_48 rfl rfl ?_
      refine gfC_R_51 G d_R_lookAt_49 ?_
      refine vj_iload_n G (p9 := 2) d_R_lookAt_52 rfl rfl ?_
      obtain ⟨c8, hF⟩ := ck_some hF
      refine vj_iald G (x := x2) lkC_28 (by decide) c8 d_R_lookAt_53 ?_
      obtain ⟨c9, hF⟩ := ck_some hF
      refine vj_iast G (x := (M 27 x2.toNat)) lkC_25 (by decide) (by decide) (by decide) c9 (mr_a hM7 lkC_28) d_R_lookAt_54 ?_
      refine vj_aload_n G (p9 := 0) d_R_lookAt_55 rfl rfl ?_
      refine gfC_R_45 G d_R_lookAt_56 ?_
      refine vj_aload_n G (p9 := 0) d_R_lookAt_59 rfl rfl ?_
      refine gfC_R_48 G d_R_lookAt_60 ?_
      refine vj_iload_n G (p9 := 2) d_R_lookAt_63 rfl rfl ?_
      obtain ⟨c10, hF⟩ := ck_some hF
      refine vj_iald G (x := x2) lkC_27 (by decide) c10 d_R_lookAt_64 ?_
      refine vj_mr (fun hM11 => ?_)
      refine vj_aload_n G (p9 := 0) d_R_lookAt_65 rfl rfl ?_
      refine gfC_R_54 G d_R_lookAt_66 ?_
      refine vj_iload_n G (p9 := 2) d_R_lookAt_69 rfl rfl ?_
      obtain ⟨c12, hF⟩ := ck_some hF
      refine vj_iald G (x := x2) lkC_29 (by decide) c12 d_R_lookAt_70 ?_
      obtain ⟨c13, hF⟩ := ck_some hF
      refine vj_iast G (x := ((mset M 25 (M 27 x2.toNat).toNat (M 28 x2.toNat)) 27 x2.toNat)) lkC_26 (by decide) (by decide) (by decide) c13 (mr_a hM11 lkC_29) d_R_lookAt_71 ?_
      refine vj_iinc G (p9 := 2) (n := 1) (lv2 := [(2, .int (i32 (w32 (x2 + 1)))), (0, .ref (wa w 1)), (1, .int (i32 x1))]) d_R_lookAt_72 rfl (by decide) rfl ?_
      refine vj_goto G (tgt := 20) d_R_lookAt_75 (by decide) ?_
      refine vj_sub [1, 2, 0] rfl ?_
      exact hk20 x1 (w32 (x2 + 1)) hx1 (ir_w _) _ hF
set_option maxHeartbeats 4000000 in
set_option maxRecDepth 100000 in
theorem wl_R_lookAt_20 {w : Wd} {X : Cx} {r : Int} {M9 : Mm} (G0 : Gx LC w X "WhoRules$Register" b_R_lookAt 3 1 23 none) (n : Nat) : ∀ (f : Nat) (x1 x2 : Int) (hx1 : inR x1) (hx2 : inR x2) (M : Mm), lp_R_lookAt_20 n f x1 x2 M = some (r, M9) → VJ LC w X 3 0 r M9 M [(0, .ref (wa w 1)), (1, .int (i32 x1)), (2, .int (i32 x2))] [] 20 := by
  intro f
  induction f with
  | zero => intro x1 x2 hx1 hx2 M hF; cases hF
  | succ f ih => intro x1 x2 hx1 hx2 M hF; exact wk_R_lookAt_20 G0 n (lp_R_lookAt_20 n f) ih x1 x2 hx1 hx2 M hF
set_option maxHeartbeats 4000000 in
set_option maxRecDepth 100000 in
theorem ct_R_lookAt {w : Wd} (hij : ij LC w) (n : Nat) (x1 : Int) (hx1 : inR x1) {M : Mm} {r : Int} {M9 : Mm} (hF : f_R_lookAt n x1 M = some (r, M9)) : Ct LC w y_R_lookAt b_R_lookAt 3 none 1 23 0 [.ref (wa w 1), .int (i32 x1)] M r M9 := by
  refine Ct.of hij KstC (by decide +kernel) (Nat.le_of_ble_eq_true rfl) (fun X G0 => ?_)
  have G := G0.1
  show VJ LC w X 3 0 r M9 M [(0, .ref (wa w 1)), (1, .int (i32 x1))] [] 0
  unfold f_R_lookAt at hF
  refine vj_aload_n G (p9 := 0) d_R_lookAt_0 rfl rfl ?_
  refine gfC_R_42 G d_R_lookAt_1 ?_
  refine vj_bipush G (v := (-5)) d_R_lookAt_4 rfl ?_
  refine vj_fillI G lkC_25 (by decide) (by decide) (by decide) q_625 ic_m5 (by decide) (by decide) (by decide) d_R_lookAt_6 ?_
  refine vj_aload_n G (p9 := 0) d_R_lookAt_9 rfl rfl ?_
  refine gfC_R_45 G d_R_lookAt_10 ?_
  refine vj_bipush G (v := (-5)) d_R_lookAt_13 rfl ?_
  refine vj_fillI G lkC_26 (by decide) (by decide) (by decide) q_625 ic_m5 (by decide) (by decide) (by decide) d_R_lookAt_15 ?_
  refine vj_iconst G (v := 0) d_R_lookAt_18 rfl ?_
  refine vj_istore_n G (lv2 := [(2, .int (i32 0)), (0, .ref (wa w 1)), (1, .int (i32 x1))]) d_R_lookAt_19 rfl (by decide) rfl ?_
  refine vj_sub [1, 2, 0] rfl ?_
  exact wl_R_lookAt_20 G0 n  n x1 0 hx1 ic_0 _ hF
set_option maxHeartbeats 4000000 in
set_option maxRecDepth 100000 in
theorem ct_R_sales {w : Wd} (hij : ij LC w) (n : Nat) {M : Mm} {r : Int} {M9 : Mm} (hF : f_R_sales n  M = some (r, M9)) : Ct LC w y_R_sales b_R_sales 1 (some .int) 0 0 1 [.ref (wa w 1)] M r M9 := by
  refine Ct.of hij KstC (by decide +kernel) (Nat.le_of_ble_eq_true rfl) (fun X G0 => ?_)
  have G := G0.1
  show VJ LC w X 1 1 r M9 M [(0, .ref (wa w 1))] [] 0
  unfold f_R_sales at hF
  refine vj_aload_n G (p9 := 0) d_R_sales_0 rfl rfl ?_
  refine gfC_R_115 G d_R_sales_1 ?_
  refine vj_mr (fun hM1 => ?_)
  refine vj_aload_n G (p9 := 0) d_R_sales_4 rfl rfl ?_
  refine gfC_R_68 G d_R_sales_5 ?_
  refine vj_isub G d_R_sales_8 ?_
  cases hF
  exact vj_iret G0 (ir_w _) d_R_sales_9
set_option maxHeartbeats 4000000 in
set_option maxRecDepth 100000 in
theorem ct_W_sale {w : Wd} (hij : ij LC w) (n : Nat) (x1 x2 : Int) (hx1 : inR x1) (hx2 : inR x2) {M : Mm} {r : Int} {M9 : Mm} (hF : f_W_sale n x1 x2 M = some (r, M9)) : Ct LC w y_W_sale b_W_sale 3 (some .int) 2 45 1 [.ref (wa w 0), .int (i32 x1), .int (i32 x2)] M r M9 := by
  refine Ct.of hij KstC (by decide +kernel) (Nat.le_of_ble_eq_true rfl) (fun X G0 => ?_)
  have G := G0.1
  show VJ LC w X 3 1 r M9 M [(0, .ref (wa w 0)), (1, .int (i32 x1)), (2, .int (i32 x2))] [] 0
  unfold f_W_sale at hF
  refine vj_aload_n G (p9 := 0) d_W_sale_0 rfl rfl ?_
  refine gfC_W_18 G d_W_sale_1 ?_
  refine vj_iload_n G (p9 := 1) d_W_sale_4 rfl rfl ?_
  obtain ⟨r1, M1, e1, hF⟩ := bnd_some hF
  refine vj_callV3 G (ct_R_isShare (gx_ij G) n x1 hx1 e1) lkC_1 clC_7 rfl q_613 cq_R_isShare rfl (by decide) (by decide) (Nat.le_of_ble_eq_true rfl) d_W_sale_5 rfl (fun hr1 => ?_)
  refine vj_if_eq G (tgt := 22) d_W_sale_8 (by decide) (ir_b hr1) (fun c2 => ?_) (fun c2 => ?_)
  · rw [if_pos c2] at hF
    refine vj_iconst G (v := (-1)) d_W_sale_22 rfl ?_
    cases hF
    exact vj_iret G0 ic_m1 d_W_sale_23
  · rw [if_neg c2] at hF
    refine vj_aload_n G (p9 := 0) d_W_sale_11 rfl rfl ?_
    refine gfC_W_18 G d_W_sale_12 ?_
    refine vj_iload_n G (p9 := 2) d_W_sale_15 rfl rfl ?_
    obtain ⟨r3, M3, e3, hF⟩ := bnd_some hF
    refine vj_callV3 G (ct_R_isHolder (gx_ij G) n x2 hx2 e3) lkC_1 clC_7 rfl q_596 cq_R_isHolder rfl (by decide) (by decide) (Nat.le_of_ble_eq_true rfl) d_W_sale_16 rfl (fun hr3 => ?_)
    refine vj_if_ne G (tgt := 24) d_W_sale_19 (by decide) (ir_b hr3) (fun c4 => ?_) (fun c4 => ?_)
    · rw [if_pos c4] at hF
      refine vj_aload_n G (p9 := 0) d_W_sale_24 rfl rfl ?_
      refine gfC_W_18 G d_W_sale_25 ?_
      refine vj_aload_n G (p9 := 0) d_W_sale_28 rfl rfl ?_
      refine gfC_W_18 G d_W_sale_29 ?_
      refine gfC_W_79 G d_W_sale_32 ?_
      refine vj_mr (fun hM5 => ?_)
      obtain ⟨r6, M6, e6, hF⟩ := bnd_some hF
      refine vj_callV0 G (ct_R_lookAt (gx_ij G) n (M3 1 0) (mr_o hM5 lkC_1 flC_7_0) e6) lkC_1 clC_7 rfl q_621 cq_R_lookAt rfl (by decide) (by decide) (Nat.le_of_ble_eq_true rfl) d_W_sale_35 rfl (fun hr6 => ?_)
      refine vj_aload_n G (p9 := 0) d_W_sale_38 rfl rfl ?_
      refine gfC_W_18 G d_W_sale_39 ?_
      refine gfC_W_112 G d_W_sale_42 ?_
      refine vj_iload_n G (p9 := 1) d_W_sale_45 rfl rfl ?_
      obtain ⟨c7, hF⟩ := ck_some hF
      refine vj_iald G (x := x1) lkC_25 (by decide) c7 d_W_sale_46 ?_
      refine vj_mr (fun hM8 => ?_)
      refine vj_iload_n G (p9 := 2) d_W_sale_47 rfl rfl ?_
      refine vj_icmp_ne G (tgt := 54) d_W_sale_48 (by decide) (mr_a hM8 lkC_25) hx2 (fun c9 => ?_) (fun c9 => ?_)
      · rw [if_pos c9] at hF
        refine vj_aload_n G (p9 := 0) d_W_sale_54 rfl rfl ?_
        refine gfC_W_18 G d_W_sale_55 ?_
        obtain ⟨r10, M10, e10, hF⟩ := bnd_some hF
        refine vj_callV1 G (ct_R_sales (gx_ij G) n   e10) lkC_1 clC_7 rfl q_626 cq_R_sales rfl (by decide) (by decide) (Nat.le_of_ble_eq_true rfl) d_W_sale_58 rfl (fun hr10 => ?_)
        refine vj_bipush G (v := 120) d_W_sale_61 rfl ?_
        refine vj_icmp_lt G (tgt := 69) d_W_sale_63 (by decide) hr10 ic_120 (fun c11 => ?_) (fun c11 => ?_)
        · rw [if_pos c11] at hF
          refine vj_aload_n G (p9 := 0) d_W_sale_69 rfl rfl ?_
          refine gfC_W_18 G d_W_sale_70 ?_
          refine vj_iload_n G (p9 := 1) d_W_sale_73 rfl rfl ?_
          refine vj_iload_n G (p9 := 2) d_W_sale_74 rfl rfl ?_
          obtain ⟨r12, M12, e12, hF⟩ := bnd_some hF
          refine vj_callV0 G (ct_R_move (gx_ij G) n x1 x2 hx1 hx2 e12) lkC_1 clC_7 rfl q_630 cq_R_move rfl (by decide) (by decide) (Nat.le_of_ble_eq_true rfl) d_W_sale_75 rfl (fun hr12 => ?_)
          refine vj_aload_n G (p9 := 0) d_W_sale_78 rfl rfl ?_
          refine gfC_W_18 G d_W_sale_79 ?_
          obtain ⟨r13, M13, e13, hF⟩ := bnd_some hF
          refine vj_callV1 G (ct_R_sales (gx_ij G) n   e13) lkC_1 clC_7 rfl q_626 cq_R_sales rfl (by decide) (by decide) (Nat.le_of_ble_eq_true rfl) d_W_sale_82 rfl (fun hr13 => ?_)
          cases hF
          exact vj_iret G0 hr13 d_W_sale_85
        · rw [if_neg c11] at hF
          refine vj_bipush G (v := (-4)) d_W_sale_66 rfl ?_
          cases hF
          exact vj_iret G0 ic_m4 d_W_sale_68
      · rw [if_neg c9] at hF
        refine vj_bipush G (v := (-3)) d_W_sale_51 rfl ?_
        cases hF
        exact vj_iret G0 ic_m3 d_W_sale_53
    · rw [if_neg c4] at hF
      refine vj_iconst G (v := (-1)) d_W_sale_22 rfl ?_
      cases hF
      exact vj_iret G0 ic_m1 d_W_sale_23
set_option maxHeartbeats 4000000 in
set_option maxRecDepth 100000 in
theorem ct_W_of {w : Wd} (hij : ij LC w) (n : Nat) (x1 x2 : Int) (hx1 : inR x1) (hx2 : inR x2) {M : Mm} {r : Int} {M9 : Mm} (hF : f_W_of n x1 x2 M = some (r, M9)) : Ct LC w y_W_of b_W_of 3 (some .int) 1 21 1 [.ref (wa w 0), .int (i32 x1), .int (i32 x2)] M r M9 := by
  refine Ct.of hij KstC (by decide +kernel) (Nat.le_of_ble_eq_true rfl) (fun X G0 => ?_)
  have G := G0.1
  show VJ LC w X 3 1 r M9 M [(0, .ref (wa w 0)), (1, .int (i32 x1)), (2, .int (i32 x2))] [] 0
  unfold f_W_of at hF
  refine vj_aload_n G (p9 := 0) d_W_of_0 rfl rfl ?_
  refine gfC_W_18 G d_W_of_1 ?_
  refine vj_iload_n G (p9 := 1) d_W_of_4 rfl rfl ?_
  obtain ⟨r1, M1, e1, hF⟩ := bnd_some hF
  refine vj_callV3 G (ct_R_isShare (gx_ij G) n x1 hx1 e1) lkC_1 clC_7 rfl q_613 cq_R_isShare rfl (by decide) (by decide) (Nat.le_of_ble_eq_true rfl) d_W_of_5 rfl (fun hr1 => ?_)
  refine vj_if_ne G (tgt := 13) d_W_of_8 (by decide) (ir_b hr1) (fun c2 => ?_) (fun c2 => ?_)
  · rw [if_pos c2] at hF
    refine vj_iload_n G (p9 := 2) d_W_of_13 rfl rfl ?_
    by_cases c3 : x2 = 0
    · rw [if_pos c3] at hF
      refine vj_swIn G (y := 0) (tgt := 44) d_W_of_14 hx2 c3 (by decide) (by decide) rfl (by decide) ?_
      refine vj_aload_n G (p9 := 0) d_W_of_44 rfl rfl ?_
      refine gfC_W_18 G d_W_of_45 ?_
      refine gfC_W_123 G d_W_of_48 ?_
      refine vj_iload_n G (p9 := 1) d_W_of_51 rfl rfl ?_
      obtain ⟨c4, hF⟩ := ck_some hF
      refine vj_iald G (x := x1) lkC_21 (by decide) c4 d_W_of_52 ?_
      refine vj_mr (fun hM5 => ?_)
      cases hF
      exact vj_iret G0 (mr_a hM5 lkC_21) d_W_of_53
    · rw [if_neg c3] at hF
      by_cases c6 : x2 = 1
      · rw [if_pos c6] at hF
        refine vj_swIn G (y := 1) (tgt := 54) d_W_of_14 hx2 c6 (by decide) (by decide) rfl (by decide) ?_
        refine vj_aload_n G (p9 := 0) d_W_of_54 rfl rfl ?_
        refine gfC_W_18 G d_W_of_55 ?_
        refine gfC_W_126 G d_W_of_58 ?_
        refine vj_iload_n G (p9 := 1) d_W_of_61 rfl rfl ?_
        obtain ⟨c7, hF⟩ := ck_some hF
        refine vj_iald G (x := x1) lkC_22 (by decide) c7 d_W_of_62 ?_
        refine vj_mr (fun hM8 => ?_)
        cases hF
        exact vj_iret G0 (mr_a hM8 lkC_22) d_W_of_63
      · rw [if_neg c6] at hF
        by_cases c9 : x2 = 2
        · rw [if_pos c9] at hF
          refine vj_swIn G (y := 2) (tgt := 64) d_W_of_14 hx2 c9 (by decide) (by decide) rfl (by decide) ?_
          refine vj_aload_n G (p9 := 0) d_W_of_64 rfl rfl ?_
          refine gfC_W_18 G d_W_of_65 ?_
          refine gfC_W_129 G d_W_of_68 ?_
          refine vj_iload_n G (p9 := 1) d_W_of_71 rfl rfl ?_
          obtain ⟨c10, hF⟩ := ck_some hF
          refine vj_iald G (x := x1) lkC_23 (by decide) c10 d_W_of_72 ?_
          refine vj_mr (fun hM11 => ?_)
          cases hF
          exact vj_iret G0 (mr_a hM11 lkC_23) d_W_of_73
        · rw [if_neg c9] at hF
          by_cases c12 : x2 = 3
          · rw [if_pos c12] at hF
            refine vj_swIn G (y := 3) (tgt := 74) d_W_of_14 hx2 c12 (by decide) (by decide) rfl (by decide) ?_
            refine vj_aload_n G (p9 := 0) d_W_of_74 rfl rfl ?_
            refine gfC_W_18 G d_W_of_75 ?_
            refine gfC_W_105 G d_W_of_78 ?_
            refine vj_iload_n G (p9 := 1) d_W_of_81 rfl rfl ?_
            obtain ⟨c13, hF⟩ := ck_some hF
            refine vj_iald G (x := x1) lkC_24 (by decide) c13 d_W_of_82 ?_
            refine vj_mr (fun hM14 => ?_)
            cases hF
            exact vj_iret G0 (mr_a hM14 lkC_24) d_W_of_83
          · rw [if_neg c12] at hF
            refine vj_swOut G (tgt := 84) d_W_of_14 hx2 (by omega) (by decide) ?_
            refine vj_iconst G (v := (-1)) d_W_of_84 rfl ?_
            cases hF
            exact vj_iret G0 ic_m1 d_W_of_85
  · rw [if_neg c2] at hF
    refine vj_iconst G (v := (-1)) d_W_of_11 rfl ?_
    cases hF
    exact vj_iret G0 ic_m1 d_W_of_12
set_option maxHeartbeats 4000000 in
set_option maxRecDepth 100000 in
theorem wk_W_isDay_15 {w : Wd} {X : Cx} {r : Int} {M9 : Mm} (G0 : Gx LC w X "WhoRules" b_W_isDay 1 0 0 (some .boolean)) (n : Nat) (M : Mm) (hF : f_W_isDay_15 n  M = some (r, M9)) : VJ LC w X 1 3 r M9 M [] [] 15 := by
  have G := G0.1
  unfold f_W_isDay_15 at hF
  refine vj_iconst G (v := 0) d_W_isDay_15 rfl ?_
  cases hF
  exact vj_zret G0 (Or.inl rfl) d_W_isDay_16
set_option maxHeartbeats 4000000 in
set_option maxRecDepth 100000 in
theorem ct_W_isDay {w : Wd} (hij : ij LC w) (n : Nat) (x0 : Int) (hx0 : inR x0) {M : Mm} {r : Int} {M9 : Mm} (hF : f_W_isDay n x0 M = some (r, M9)) : Ct LC w y_W_isDay b_W_isDay 1 (some .boolean) 0 0 3 [.int (i32 x0)] M r M9 := by
  refine Ct.of hij KstC (by decide +kernel) (Nat.le_of_ble_eq_true rfl) (fun X G0 => ?_)
  have G := G0.1
  show VJ LC w X 1 3 r M9 M [(0, .int (i32 x0))] [] 0
  unfold f_W_isDay at hF
  refine vj_iload_n G (p9 := 0) d_W_isDay_0 rfl rfl ?_
  refine vj_if_lt G (tgt := 15) d_W_isDay_1 (by decide) hx0 (fun c1 => ?_) (fun c1 => ?_)
  · rw [if_pos c1] at hF
    refine vj_sub [] rfl ?_
    exact wk_W_isDay_15 G0 n    _ hF
  · rw [if_neg c1] at hF
    refine vj_iload_n G (p9 := 0) d_W_isDay_4 rfl rfl ?_
    refine vj_sipush G (v := 999) d_W_isDay_5 rfl ?_
    refine vj_icmp_gt G (tgt := 15) d_W_isDay_8 (by decide) hx0 ic_999 (fun c2 => ?_) (fun c2 => ?_)
    · rw [if_pos c2] at hF
      refine vj_sub [] rfl ?_
      exact wk_W_isDay_15 G0 n    _ hF
    · rw [if_neg c2] at hF
      refine vj_iconst G (v := 1) d_W_isDay_11 rfl ?_
      refine vj_goto G (tgt := 16) d_W_isDay_12 (by decide) ?_
      cases hF
      exact vj_zret G0 (Or.inr rfl) d_W_isDay_16
set_option maxHeartbeats 4000000 in
set_option maxRecDepth 100000 in
theorem ct_W_held {w : Wd} (hij : ij LC w) (n : Nat) (x1 x2 x3 : Int) (hx1 : inR x1) (hx2 : inR x2) (hx3 : inR x3) {M : Mm} {r : Int} {M9 : Mm} (hF : f_W_held n x1 x2 x3 M = some (r, M9)) : Ct LC w y_W_held b_W_held 4 (some .int) 2 45 1 [.ref (wa w 0), .int (i32 x1), .int (i32 x2), .int (i32 x3)] M r M9 := by
  refine Ct.of hij KstC (by decide +kernel) (Nat.le_of_ble_eq_true rfl) (fun X G0 => ?_)
  have G := G0.1
  show VJ LC w X 4 1 r M9 M [(0, .ref (wa w 0)), (1, .int (i32 x1)), (2, .int (i32 x2)), (3, .int (i32 x3))] [] 0
  unfold f_W_held at hF
  refine vj_aload_n G (p9 := 0) d_W_held_0 rfl rfl ?_
  refine gfC_W_18 G d_W_held_1 ?_
  refine vj_iload_n G (p9 := 1) d_W_held_4 rfl rfl ?_
  obtain ⟨r1, M1, e1, hF⟩ := bnd_some hF
  refine vj_callV3 G (ct_R_isShare (gx_ij G) n x1 hx1 e1) lkC_1 clC_7 rfl q_613 cq_R_isShare rfl (by decide) (by decide) (Nat.le_of_ble_eq_true rfl) d_W_held_5 rfl (fun hr1 => ?_)
  refine vj_if_eq G (tgt := 27) d_W_held_8 (by decide) (ir_b hr1) (fun c2 => ?_) (fun c2 => ?_)
  · rw [if_pos c2] at hF
    refine vj_iconst G (v := (-1)) d_W_held_27 rfl ?_
    cases hF
    exact vj_iret G0 ic_m1 d_W_held_28
  · rw [if_neg c2] at hF
    refine vj_iload_n G (p9 := 2) d_W_held_11 rfl rfl ?_
    obtain ⟨r3, M3, e3, hF⟩ := bnd_some hF
    refine vj_callS3 G (ct_W_isDay (gx_ij G) n x2 hx2 e3) q_639 cq_W_isDay rfl (by decide) (by decide) (Nat.le_of_ble_eq_true rfl) d_W_held_12 rfl (fun hr3 => ?_)
    refine vj_if_eq G (tgt := 27) d_W_held_15 (by decide) (ir_b hr3) (fun c4 => ?_) (fun c4 => ?_)
    · rw [if_pos c4] at hF
      refine vj_iconst G (v := (-1)) d_W_held_27 rfl ?_
      cases hF
      exact vj_iret G0 ic_m1 d_W_held_28
    · rw [if_neg c4] at hF
      refine vj_iload_n G (p9 := 3) d_W_held_18 rfl rfl ?_
      refine vj_if_lt G (tgt := 27) d_W_held_19 (by decide) hx3 (fun c5 => ?_) (fun c5 => ?_)
      · rw [if_pos c5] at hF
        refine vj_iconst G (v := (-1)) d_W_held_27 rfl ?_
        cases hF
        exact vj_iret G0 ic_m1 d_W_held_28
      · rw [if_neg c5] at hF
        refine vj_iload_n G (p9 := 3) d_W_held_22 rfl rfl ?_
        refine vj_iconst G (v := 1) d_W_held_23 rfl ?_
        refine vj_icmp_le G (tgt := 29) d_W_held_24 (by decide) hx3 ic_1 (fun c6 => ?_) (fun c6 => ?_)
        · rw [if_pos c6] at hF
          refine vj_aload_n G (p9 := 0) d_W_held_29 rfl rfl ?_
          refine gfC_W_18 G d_W_held_30 ?_
          refine vj_iload_n G (p9 := 2) d_W_held_33 rfl rfl ?_
          obtain ⟨r7, M7, e7, hF⟩ := bnd_some hF
          refine vj_callV0 G (ct_R_lookAt (gx_ij G) n x2 hx2 e7) lkC_1 clC_7 rfl q_621 cq_R_lookAt rfl (by decide) (by decide) (Nat.le_of_ble_eq_true rfl) d_W_held_34 rfl (fun hr7 => ?_)
          refine vj_iload_n G (p9 := 3) d_W_held_37 rfl rfl ?_
          refine vj_if_ne G (tgt := 53) d_W_held_38 (by decide) hx3 (fun c8 => ?_) (fun c8 => ?_)
          · rw [if_pos c8] at hF
            refine vj_aload_n G (p9 := 0) d_W_held_53 rfl rfl ?_
            refine gfC_W_18 G d_W_held_54 ?_
            refine gfC_W_135 G d_W_held_57 ?_
            refine vj_iload_n G (p9 := 1) d_W_held_60 rfl rfl ?_
            obtain ⟨c9, hF⟩ := ck_some hF
            refine vj_iald G (x := x1) lkC_26 (by decide) c9 d_W_held_61 ?_
            refine vj_mr (fun hM10 => ?_)
            cases hF
            exact vj_iret G0 (mr_a hM10 lkC_26) d_W_held_62
          · rw [if_neg c8] at hF
            refine vj_aload_n G (p9 := 0) d_W_held_41 rfl rfl ?_
            refine gfC_W_18 G d_W_held_42 ?_
            refine gfC_W_112 G d_W_held_45 ?_
            refine vj_iload_n G (p9 := 1) d_W_held_48 rfl rfl ?_
            obtain ⟨c11, hF⟩ := ck_some hF
            refine vj_iald G (x := x1) lkC_25 (by decide) c11 d_W_held_49 ?_
            refine vj_mr (fun hM12 => ?_)
            refine vj_goto G (tgt := 62) d_W_held_50 (by decide) ?_
            cases hF
            exact vj_iret G0 (mr_a hM12 lkC_25) d_W_held_62
        · rw [if_neg c6] at hF
          refine vj_iconst G (v := (-1)) d_W_held_27 rfl ?_
          cases hF
          exact vj_iret G0 ic_m1 d_W_held_28
set_option maxHeartbeats 4000000 in
set_option maxRecDepth 100000 in
theorem ct_C_append {w : Wd} (hij : ij LC w) (n : Nat) (x1 : Int) (hx1 : inR x1) {M : Mm} {r : Int} {M9 : Mm} (hF : f_C_append n x1 M = some (r, M9)) : Ct LC w y_C_append b_C_append 2 none 0 0 0 [.ref (wa w 2), .int (i32 x1)] M r M9 := by
  refine Ct.of hij KstC (by decide +kernel) (Nat.le_of_ble_eq_true rfl) (fun X G0 => ?_)
  have G := G0.1
  show VJ LC w X 2 0 r M9 M [(0, .ref (wa w 2)), (1, .int (i32 x1))] [] 0
  unfold f_C_append at hF
  refine vj_aload_n G (p9 := 0) d_C_append_0 rfl rfl ?_
  refine gfC_C_37 G d_C_append_1 ?_
  refine vj_mr (fun hM1 => ?_)
  refine vj_bipush G (v := 100) d_C_append_4 rfl ?_
  refine vj_icmp_ge G (tgt := 29) d_C_append_6 (by decide) (mr_o hM1 lkC_2 flC_8_1) ic_100 (fun c2 => ?_) (fun c2 => ?_)
  · rw [if_pos c2] at hF
    cases hF
    exact vj_vret G0 d_C_append_29
  · rw [if_neg c2] at hF
    refine vj_aload_n G (p9 := 0) d_C_append_9 rfl rfl ?_
    refine gfC_C_11 G d_C_append_10 ?_
    refine vj_aload_n G (p9 := 0) d_C_append_13 rfl rfl ?_
    refine gfC_C_37 G d_C_append_14 ?_
    refine vj_mr (fun hM3 => ?_)
    refine vj_iload_n G (p9 := 1) d_C_append_17 rfl rfl ?_
    obtain ⟨c4, hF⟩ := ck_some hF
    refine vj_bast G (x := (M 2 1)) lkC_30 (by decide) (by decide) (by decide) c4 d_C_append_18 ?_
    refine vj_aload_n G (p9 := 0) d_C_append_19 rfl rfl ?_
    refine vj_dup G d_C_append_20 rfl ?_
    refine gfC_C_37 G d_C_append_21 ?_
    refine vj_mr (fun hM5 => ?_)
    refine vj_iconst G (v := 1) d_C_append_24 rfl ?_
    refine vj_iadd G d_C_append_25 ?_
    refine pfC_C_37 G (ir_w _) d_C_append_26 ?_
    cases hF
    exact vj_vret G0 d_C_append_29
set_option maxHeartbeats 4000000 in
set_option maxRecDepth 100000 in
theorem wk_W_feed_33 {w : Wd} {X : Cx} {r : Int} {M9 : Mm} (G0 : Gx LC w X "WhoRules" b_W_feed 4 1 21 (some .int)) (n : Nat) (k33 : Int → Int → Mm → Rr) (hk33 : ∀ (x1 x3 : Int) (hx1 : inR x1) (hx3 : inR x3) (M : Mm), k33 x1 x3 M = some (r, M9) → VJ LC w X 4 1 r M9 M [(0, .ref (wa w 0)), (1, .int (i32 x1)), (3, .int (i32 x3))] [] 33) (x1 x3 : Int) (hx1 : inR x1) (hx3 : inR x3) (M : Mm) (hF : f_W_feed_33 n k33 x1 x3 M = some (r, M9)) : VJ LC w X 4 1 r M9 M [(0, .ref (wa w 0)), (1, .int (i32 x1)), (3, .int (i32 x3))] [] 33 := by
  have G := G0.1
  unfold f_W_feed_33 at hF
  refine vj_iload_n G (p9 := 2) d_W_feed_33 rfl rfl ?_
  refine vj_if_lt G (tgt := 57) d_W_feed_34 (by decide) hx3 (fun c1 => ?_) (fun c1 => ?_)
  · rw [if_pos c1] at hF
    refine vj_aload_n G (p9 := 0) d_W_feed_57 rfl rfl ?_
    refine gfC_W_25 G d_W_feed_58 ?_
    refine gfC_W_138 G d_W_feed_61 ?_
    refine vj_mr (fun hM2 => ?_)
    cases hF
    exact vj_iret G0 (mr_o hM2 lkC_2 flC_8_1) d_W_feed_64
  · rw [if_neg c1] at hF
    refine vj_aload_n G (p9 := 0) d_W_feed_37 rfl rfl ?_
    refine gfC_W_25 G d_W_feed_38 ?_
    refine vj_iload_n G (p9 := 1) d_W_feed_41 rfl rfl ?_
    refine vj_bipush G (v := 8) d_W_feed_42 rfl ?_
    refine vj_iload_n G (p9 := 2) d_W_feed_44 rfl rfl ?_
    refine vj_imul G d_W_feed_45 ?_
    refine vj_ishr G d_W_feed_46 ?_
    refine vj_i2b G d_W_feed_47 ?_
    obtain ⟨r3, M3, e3, hF⟩ := bnd_some hF
    refine vj_callV0 G (ct_C_append (gx_ij G) n (w8 (isr x1 (w32 (8 * x3)))) (ir_w8 _) e3) lkC_2 clC_8 rfl q_646 cq_C_append rfl (by decide) (by decide) (Nat.le_of_ble_eq_true rfl) d_W_feed_48 rfl (fun hr3 => ?_)
    refine vj_iinc G (p9 := 2) (n := (-1)) (lv2 := [(3, .int (i32 (w32 (x3 + (-1))))), (0, .ref (wa w 0)), (1, .int (i32 x1))]) d_W_feed_51 rfl (by decide) rfl ?_
    refine vj_goto G (tgt := 33) d_W_feed_54 (by decide) ?_
    refine vj_sub [1, 2, 0] rfl ?_
    exact hk33 x1 (w32 (x3 + (-1))) hx1 (ir_w _) _ hF
set_option maxHeartbeats 4000000 in
set_option maxRecDepth 100000 in
theorem wl_W_feed_33 {w : Wd} {X : Cx} {r : Int} {M9 : Mm} (G0 : Gx LC w X "WhoRules" b_W_feed 4 1 21 (some .int)) (n : Nat) : ∀ (f : Nat) (x1 x3 : Int) (hx1 : inR x1) (hx3 : inR x3) (M : Mm), lp_W_feed_33 n f x1 x3 M = some (r, M9) → VJ LC w X 4 1 r M9 M [(0, .ref (wa w 0)), (1, .int (i32 x1)), (3, .int (i32 x3))] [] 33 := by
  intro f
  induction f with
  | zero => intro x1 x3 hx1 hx3 M hF; cases hF
  | succ f ih => intro x1 x3 hx1 hx3 M hF; exact wk_W_feed_33 G0 n (lp_W_feed_33 n f) ih x1 x3 hx1 hx3 M hF
set_option maxHeartbeats 4000000 in
set_option maxRecDepth 100000 in
theorem ct_W_feed {w : Wd} (hij : ij LC w) (n : Nat) (x1 x2 : Int) (hx1 : inR x1) (hx2 : inR x2) {M : Mm} {r : Int} {M9 : Mm} (hF : f_W_feed n x1 x2 M = some (r, M9)) : Ct LC w y_W_feed b_W_feed 4 (some .int) 1 21 1 [.ref (wa w 0), .int (i32 x1), .int (i32 x2)] M r M9 := by
  refine Ct.of hij KstC (by decide +kernel) (Nat.le_of_ble_eq_true rfl) (fun X G0 => ?_)
  have G := G0.1
  show VJ LC w X 4 1 r M9 M [(0, .ref (wa w 0)), (1, .int (i32 x1)), (2, .int (i32 x2))] [] 0
  unfold f_W_feed at hF
  refine vj_iload_n G (p9 := 2) d_W_feed_0 rfl rfl ?_
  refine vj_if_lt G (tgt := 9) d_W_feed_1 (by decide) hx2 (fun c1 => ?_) (fun c1 => ?_)
  · rw [if_pos c1] at hF
    refine vj_bipush G (v := (-2)) d_W_feed_9 rfl ?_
    cases hF
    exact vj_iret G0 ic_m2 d_W_feed_11
  · rw [if_neg c1] at hF
    refine vj_iload_n G (p9 := 2) d_W_feed_4 rfl rfl ?_
    refine vj_iconst G (v := 4) d_W_feed_5 rfl ?_
    refine vj_icmp_le G (tgt := 12) d_W_feed_6 (by decide) hx2 ic_4 (fun c2 => ?_) (fun c2 => ?_)
    · rw [if_pos c2] at hF
      refine vj_aload_n G (p9 := 0) d_W_feed_12 rfl rfl ?_
      refine gfC_W_25 G d_W_feed_13 ?_
      refine gfC_W_138 G d_W_feed_16 ?_
      refine vj_mr (fun hM3 => ?_)
      refine vj_iload_n G (p9 := 2) d_W_feed_19 rfl rfl ?_
      refine vj_iadd G d_W_feed_20 ?_
      refine vj_bipush G (v := 100) d_W_feed_21 rfl ?_
      refine vj_icmp_le G (tgt := 29) d_W_feed_23 (by decide) (ir_w _) ic_100 (fun c4 => ?_) (fun c4 => ?_)
      · rw [if_pos c4] at hF
        refine vj_iload_n G (p9 := 2) d_W_feed_29 rfl rfl ?_
        refine vj_iconst G (v := 1) d_W_feed_30 rfl ?_
        refine vj_isub G d_W_feed_31 ?_
        refine vj_istore_n G (lv2 := [(3, .int (i32 (w32 (x2 - 1)))), (0, .ref (wa w 0)), (1, .int (i32 x1)), (2, .int (i32 x2))]) d_W_feed_32 rfl (by decide) rfl ?_
        refine vj_sub [1, 2, 0] rfl ?_
        exact wl_W_feed_33 G0 n  n x1 (w32 (x2 - 1)) hx1 (ir_w _) _ hF
      · rw [if_neg c4] at hF
        refine vj_bipush G (v := (-4)) d_W_feed_26 rfl ?_
        cases hF
        exact vj_iret G0 ic_m4 d_W_feed_28
    · rw [if_neg c2] at hF
      refine vj_bipush G (v := (-2)) d_W_feed_9 rfl ?_
      cases hF
      exact vj_iret G0 ic_m2 d_W_feed_11
set_option maxHeartbeats 4000000 in
set_option maxRecDepth 100000 in
theorem ct_C_nameOf {w : Wd} (hij : ij LC w) (n : Nat) (x0 : Int) (hx0 : inR x0) {M : Mm} {r : Int} {M9 : Mm} (hF : f_C_nameOf n x0 M = some (r, M9)) : Ct LC w y_C_nameOf b_C_nameOf 1 (some (.object "java/lang/String")) 0 0 4 [.int (i32 x0)] M r M9 := by
  refine Ct.of hij KstC (by decide +kernel) (Nat.le_of_ble_eq_true rfl) (fun X G0 => ?_)
  have G := G0.1
  show VJ LC w X 1 4 r M9 M [(0, .int (i32 x0))] [] 0
  unfold f_C_nameOf at hF
  refine vj_iload_n G (p9 := 0) d_C_nameOf_0 rfl rfl ?_
  by_cases c1 : x0 = 0
  · rw [if_pos c1] at hF
    refine vj_swIn G (y := 0) (tgt := 32) d_C_nameOf_1 hx0 c1 (by decide) (by decide) rfl (by decide) ?_
    refine vj_ldcS G0 (v := 0) d_C_nameOf_32 sr_0 ?_
    cases hF
    exact vj_aret G0 ⟨by decide, by decide⟩ d_C_nameOf_34
  · rw [if_neg c1] at hF
    by_cases c2 : x0 = 1
    · rw [if_pos c2] at hF
      refine vj_swIn G (y := 1) (tgt := 35) d_C_nameOf_1 hx0 c2 (by decide) (by decide) rfl (by decide) ?_
      refine vj_ldcS G0 (v := 1) d_C_nameOf_35 sr_1 ?_
      cases hF
      exact vj_aret G0 ⟨by decide, by decide⟩ d_C_nameOf_37
    · rw [if_neg c2] at hF
      by_cases c3 : x0 = 2
      · rw [if_pos c3] at hF
        refine vj_swIn G (y := 2) (tgt := 38) d_C_nameOf_1 hx0 c3 (by decide) (by decide) rfl (by decide) ?_
        refine vj_ldcS G0 (v := 2) d_C_nameOf_38 sr_2 ?_
        cases hF
        exact vj_aret G0 ⟨by decide, by decide⟩ d_C_nameOf_40
      · rw [if_neg c3] at hF
        by_cases c4 : x0 = 3
        · rw [if_pos c4] at hF
          refine vj_swIn G (y := 3) (tgt := 41) d_C_nameOf_1 hx0 c4 (by decide) (by decide) rfl (by decide) ?_
          refine vj_ldcS G0 (v := 3) d_C_nameOf_41 sr_3 ?_
          cases hF
          exact vj_aret G0 ⟨by decide, by decide⟩ d_C_nameOf_43
        · rw [if_neg c4] at hF
          refine vj_swOut G (tgt := 44) d_C_nameOf_1 hx0 (by omega) (by decide) ?_
          refine vj_ldcS G0 (v := 4) d_C_nameOf_44 sr_4 ?_
          cases hF
          exact vj_aret G0 ⟨by decide, by decide⟩ d_C_nameOf_46
set_option maxHeartbeats 4000000 in
set_option maxRecDepth 100000 in
theorem ct_C_takes {w : Wd} (hij : ij LC w) (n : Nat) (x1 : Int) (hx1 : inR x1) {M : Mm} {r : Int} {M9 : Mm} (hF : f_C_takes n x1 M = some (r, M9)) : Ct LC w y_C_takes b_C_takes 2 (some .boolean) 0 0 3 [.ref (wa w 2), .int (i32 x1)] M r M9 := by
  refine Ct.of hij KstC (by decide +kernel) (Nat.le_of_ble_eq_true rfl) (fun X G0 => ?_)
  have G := G0.1
  show VJ LC w X 2 3 r M9 M [(0, .ref (wa w 2)), (1, .int (i32 x1))] [] 0
  unfold f_C_takes at hF
  refine vj_aload_n G (p9 := 0) d_C_takes_0 rfl rfl ?_
  refine gfC_C_41 G d_C_takes_1 ?_
  refine vj_mr (fun hM1 => ?_)
  refine vj_aload_n G (p9 := 0) d_C_takes_4 rfl rfl ?_
  refine gfC_C_37 G d_C_takes_5 ?_
  refine vj_icmp_ge G (tgt := 24) d_C_takes_8 (by decide) (mr_o hM1 lkC_2 flC_8_3) (mr_o hM1 lkC_2 flC_8_1) (fun c2 => ?_) (fun c2 => ?_)
  · rw [if_pos c2] at hF
    refine vj_iconst G (v := 0) d_C_takes_24 rfl ?_
    cases hF
    exact vj_zret G0 (Or.inl rfl) d_C_takes_25
  · rw [if_neg c2] at hF
    refine vj_aload_n G (p9 := 0) d_C_takes_11 rfl rfl ?_
    refine gfC_C_11 G d_C_takes_12 ?_
    refine vj_aload_n G (p9 := 0) d_C_takes_15 rfl rfl ?_
    refine gfC_C_41 G d_C_takes_16 ?_
    refine vj_mr (fun hM3 => ?_)
    obtain ⟨c4, hF⟩ := ck_some hF
    refine vj_bald G (x := (M 2 3)) lkC_30 (by decide) c4 d_C_takes_19 ?_
    refine vj_iload_n G (p9 := 1) d_C_takes_20 rfl rfl ?_
    refine vj_icmp_eq G (tgt := 26) d_C_takes_21 (by decide) (mr_ab hM3 lkC_30) hx1 (fun c5 => ?_) (fun c5 => ?_)
    · rw [if_pos c5] at hF
      refine vj_aload_n G (p9 := 0) d_C_takes_26 rfl rfl ?_
      refine vj_dup G d_C_takes_27 rfl ?_
      refine gfC_C_41 G d_C_takes_28 ?_
      refine vj_mr (fun hM6 => ?_)
      refine vj_iconst G (v := 1) d_C_takes_31 rfl ?_
      refine vj_iadd G d_C_takes_32 ?_
      refine pfC_C_41 G (ir_w _) d_C_takes_33 ?_
      refine vj_iconst G (v := 1) d_C_takes_36 rfl ?_
      cases hF
      exact vj_zret G0 (Or.inr rfl) d_C_takes_37
    · rw [if_neg c5] at hF
      refine vj_iconst G (v := 0) d_C_takes_24 rfl ?_
      cases hF
      exact vj_zret G0 (Or.inl rfl) d_C_takes_25
set_option maxHeartbeats 4000000 in
set_option maxRecDepth 100000 in
theorem wk_C_takesAll_2 {w : Wd} {X : Cx} {r : Int} {M9 : Mm} (G0 : Gx LC w X "WhoRules$Charters" b_C_takesAll 3 10 400 (some .boolean)) (n : Nat) (k2 : Int → Int → Mm → Rr) (hk2 : ∀ (x1 x2 : Int) (hx1 : 0 ≤ x1 ∧ x1 < 7) (hx2 : inR x2) (M : Mm), k2 x1 x2 M = some (r, M9) → VJ LC w X 3 3 r M9 M [(0, .ref (wa w 2)), (1, .ref (ws9 w x1.toNat)), (2, .int (i32 x2))] [] 2) (x1 x2 : Int) (hx1 : 0 ≤ x1 ∧ x1 < 7) (hx2 : inR x2) (M : Mm) (hF : f_C_takesAll_2 n k2 x1 x2 M = some (r, M9)) : VJ LC w X 3 3 r M9 M [(0, .ref (wa w 2)), (1, .ref (ws9 w x1.toNat)), (2, .int (i32 x2))] [] 2 := by
  have G := G0.1
  unfold f_C_takesAll_2 at hF
  refine vj_iload_n G (p9 := 2) d_C_takesAll_2 rfl rfl ?_
  refine vj_aload_n G (p9 := 1) d_C_takesAll_3 rfl rfl ?_
  refine vj_sLen G0 hx1 q_718 (by decide) (by decide) (by decide) d_C_takesAll_4 ?_
  refine vj_icmp_ge G (tgt := 30) d_C_takesAll_7 (by decide) hx2 (ir_sLen _) (fun c1 => ?_) (fun c1 => ?_)
  · rw [if_pos c1] at hF
    refine vj_iconst G (v := 1) d_C_takesAll_30 rfl ?_
    cases hF
    exact vj_zret G0 (Or.inr rfl) d_C_takesAll_31
  · rw [if_neg c1] at hF
    refine vj_aload_n G (p9 := 0) d_C_takesAll_10 rfl rfl ?_
    refine vj_aload_n G (p9 := 1) d_C_takesAll_11 rfl rfl ?_
    refine vj_iload_n G (p9 := 2) d_C_takesAll_12 rfl rfl ?_
    obtain ⟨c2, hF⟩ := ck_some hF
    refine vj_sChar G0 hx1 c2 q_674 (by decide) (by decide) (by decide) d_C_takesAll_13 ?_
    obtain ⟨r3, M3, e3, hF⟩ := bnd_some hF
    refine vj_callV3 G (ct_C_takes (gx_ij G) n (sCh x1 x2) (ir_sCh _ _) e3) lkC_2 clC_8 rfl q_726 cq_C_takes rfl (by decide) (by decide) (Nat.le_of_ble_eq_true rfl) d_C_takesAll_16 rfl (fun hr3 => ?_)
    refine vj_if_ne G (tgt := 24) d_C_takesAll_19 (by decide) (ir_b hr3) (fun c4 => ?_) (fun c4 => ?_)
    · rw [if_pos c4] at hF
      refine vj_iinc G (p9 := 2) (n := 1) (lv2 := [(2, .int (i32 (w32 (x2 + 1)))), (0, .ref (wa w 2)), (1, .ref (ws9 w x1.toNat))]) d_C_takesAll_24 rfl (by decide) rfl ?_
      refine vj_goto G (tgt := 2) d_C_takesAll_27 (by decide) ?_
      refine vj_sub [1, 2, 0] rfl ?_
      exact hk2 x1 (w32 (x2 + 1)) hx1 (ir_w _) _ hF
    · rw [if_neg c4] at hF
      refine vj_iconst G (v := 0) d_C_takesAll_22 rfl ?_
      cases hF
      exact vj_zret G0 (Or.inl rfl) d_C_takesAll_23
set_option maxHeartbeats 4000000 in
set_option maxRecDepth 100000 in
theorem wl_C_takesAll_2 {w : Wd} {X : Cx} {r : Int} {M9 : Mm} (G0 : Gx LC w X "WhoRules$Charters" b_C_takesAll 3 10 400 (some .boolean)) (n : Nat) : ∀ (f : Nat) (x1 x2 : Int) (hx1 : 0 ≤ x1 ∧ x1 < 7) (hx2 : inR x2) (M : Mm), lp_C_takesAll_2 n f x1 x2 M = some (r, M9) → VJ LC w X 3 3 r M9 M [(0, .ref (wa w 2)), (1, .ref (ws9 w x1.toNat)), (2, .int (i32 x2))] [] 2 := by
  intro f
  induction f with
  | zero => intro x1 x2 hx1 hx2 M hF; cases hF
  | succ f ih => intro x1 x2 hx1 hx2 M hF; exact wk_C_takesAll_2 G0 n (lp_C_takesAll_2 n f) ih x1 x2 hx1 hx2 M hF
set_option maxHeartbeats 4000000 in
set_option maxRecDepth 100000 in
theorem ct_C_takesAll {w : Wd} (hij : ij LC w) (n : Nat) (x1 : Int) (hx1 : 0 ≤ x1 ∧ x1 < 7) {M : Mm} {r : Int} {M9 : Mm} (hF : f_C_takesAll n x1 M = some (r, M9)) : Ct LC w y_C_takesAll b_C_takesAll 3 (some .boolean) 10 400 3 [.ref (wa w 2), .ref (ws9 w x1.toNat)] M r M9 := by
  refine Ct.of hij KstC (by decide +kernel) (Nat.le_of_ble_eq_true rfl) (fun X G0 => ?_)
  have G := G0.1
  show VJ LC w X 3 3 r M9 M [(0, .ref (wa w 2)), (1, .ref (ws9 w x1.toNat))] [] 0
  unfold f_C_takesAll at hF
  refine vj_iconst G (v := 0) d_C_takesAll_0 rfl ?_
  refine vj_istore_n G (lv2 := [(2, .int (i32 0)), (0, .ref (wa w 2)), (1, .ref (ws9 w x1.toNat))]) d_C_takesAll_1 rfl (by decide) rfl ?_
  refine vj_sub [1, 2, 0] rfl ?_
  exact wl_C_takesAll_2 G0 n  n x1 0 hx1 ic_0 _ hF
set_option maxHeartbeats 4000000 in
set_option maxRecDepth 100000 in
theorem wk_C_readWord_54 {w : Wd} {X : Cx} {r : Int} {M9 : Mm} (G0 : Gx LC w X "WhoRules$Charters" b_C_readWord 3 11 422 (some .int)) (n : Nat) (k2 : Int → Mm → Rr) (hk2 : ∀ (x1 : Int) (hx1 : inR x1) (M : Mm), k2 x1 M = some (r, M9) → VJ LC w X 3 1 r M9 M [(0, .ref (wa w 2)), (1, .int (i32 x1))] [] 2) (x1 : Int) (hx1 : inR x1) (M : Mm) (hF : f_C_readWord_54 n k2 x1 M = some (r, M9)) : VJ LC w X 3 1 r M9 M [(0, .ref (wa w 2)), (1, .int (i32 x1))] [] 54 := by
  have G := G0.1
  unfold f_C_readWord_54 at hF
  refine vj_iinc G (p9 := 1) (n := 1) (lv2 := [(1, .int (i32 (w32 (x1 + 1)))), (0, .ref (wa w 2))]) d_C_readWord_54 rfl (by decide) rfl ?_
  refine vj_goto G (tgt := 2) d_C_readWord_57 (by decide) ?_
  refine vj_sub [1, 0] rfl ?_
  exact hk2 (w32 (x1 + 1)) (ir_w _) _ hF
set_option maxHeartbeats 4000000 in
set_option maxRecDepth 100000 in
theorem wk_C_readWord_2 {w : Wd} {X : Cx} {r : Int} {M9 : Mm} (G0 : Gx LC w X "WhoRules$Charters" b_C_readWord 3 11 422 (some .int)) (n : Nat) (k2 : Int → Mm → Rr) (hk2 : ∀ (x1 : Int) (hx1 : inR x1) (M : Mm), k2 x1 M = some (r, M9) → VJ LC w X 3 1 r M9 M [(0, .ref (wa w 2)), (1, .int (i32 x1))] [] 2) (x1 : Int) (hx1 : inR x1) (M : Mm) (hF : f_C_readWord_2 n k2 x1 M = some (r, M9)) : VJ LC w X 3 1 r M9 M [(0, .ref (wa w 2)), (1, .int (i32 x1))] [] 2 := by
  have G := G0.1
  unfold f_C_readWord_2 at hF
  refine vj_iload_n G (p9 := 1) d_C_readWord_2 rfl rfl ?_
  refine vj_iconst G (v := 5) d_C_readWord_3 rfl ?_
  refine vj_icmp_ge G (tgt := 60) d_C_readWord_4 (by decide) hx1 ic_5 (fun c1 => ?_) (fun c1 => ?_)
  · rw [if_pos c1] at hF
    refine vj_iconst G (v := (-1)) d_C_readWord_60 rfl ?_
    cases hF
    exact vj_iret G0 ic_m1 d_C_readWord_61
  · rw [if_neg c1] at hF
    refine vj_iload_n G (p9 := 1) d_C_readWord_7 rfl rfl ?_
    obtain ⟨r2, M2, e2, hF⟩ := bnd_some hF
    refine vj_callS4 G (ct_C_nameOf (gx_ij G) n x1 hx1 e2) q_666 cq_C_nameOf rfl (by decide) (by decide) (Nat.le_of_ble_eq_true rfl) d_C_readWord_8 rfl (fun hr2 => ?_)
    refine vj_astore_n G (lv2 := [(2, .ref (ws9 w r2.toNat)), (0, .ref (wa w 2)), (1, .int (i32 x1))]) d_C_readWord_11 rfl (by decide) rfl ?_
    refine vj_aload_n G (p9 := 1) d_C_readWord_12 rfl rfl ?_
    refine gfC_C_41 G d_C_readWord_13 ?_
    refine vj_mr (fun hM3 => ?_)
    refine vj_aload_n G (p9 := 1) d_C_readWord_16 rfl rfl ?_
    refine gfC_C_37 G d_C_readWord_17 ?_
    refine vj_icmp_ge G (tgt := 54) d_C_readWord_20 (by decide) (mr_o hM3 lkC_2 flC_8_3) (mr_o hM3 lkC_2 flC_8_1) (fun c4 => ?_) (fun c4 => ?_)
    · rw [if_pos c4] at hF
      refine vj_sub [1, 2] rfl ?_
      exact wk_C_readWord_54 G0 n k2 hk2 x1 hx1 _ hF
    · rw [if_neg c4] at hF
      refine vj_aload_n G (p9 := 1) d_C_readWord_23 rfl rfl ?_
      refine gfC_C_11 G d_C_readWord_24 ?_
      refine vj_aload_n G (p9 := 1) d_C_readWord_27 rfl rfl ?_
      refine gfC_C_41 G d_C_readWord_28 ?_
      refine vj_mr (fun hM5 => ?_)
      obtain ⟨c6, hF⟩ := ck_some hF
      refine vj_bald G (x := (M2 2 3)) lkC_30 (by decide) c6 d_C_readWord_31 ?_
      refine vj_aload_n G (p9 := 0) d_C_readWord_32 rfl rfl ?_
      refine vj_iconst G (v := 0) d_C_readWord_33 rfl ?_
      obtain ⟨c7, hF⟩ := ck_some hF
      refine vj_sChar G0 hr2 c7 q_674 (by decide) (by decide) (by decide) d_C_readWord_34 ?_
      refine vj_icmp_ne G (tgt := 54) d_C_readWord_37 (by decide) (mr_ab hM5 lkC_30) (ir_sCh _ _) (fun c8 => ?_) (fun c8 => ?_)
      · rw [if_pos c8] at hF
        refine vj_sub [1, 2] rfl ?_
        exact wk_C_readWord_54 G0 n k2 hk2 x1 hx1 _ hF
      · rw [if_neg c8] at hF
        refine vj_aload_n G (p9 := 1) d_C_readWord_40 rfl rfl ?_
        refine vj_aload_n G (p9 := 0) d_C_readWord_41 rfl rfl ?_
        obtain ⟨r9, M9, e9, hF⟩ := bnd_some hF
        refine vj_callV3 G (ct_C_takesAll (gx_ij G) n r2 hr2 e9) lkC_2 clC_8 rfl q_714 cq_C_takesAll rfl (by decide) (by decide) (Nat.le_of_ble_eq_true rfl) d_C_readWord_42 rfl (fun hr9 => ?_)
        refine vj_if_eq G (tgt := 52) d_C_readWord_45 (by decide) (ir_b hr9) (fun c10 => ?_) (fun c10 => ?_)
        · rw [if_pos c10] at hF
          refine vj_iconst G (v := (-1)) d_C_readWord_52 rfl ?_
          cases hF
          exact vj_iret G0 ic_m1 d_C_readWord_53
        · rw [if_neg c10] at hF
          refine vj_iload_n G (p9 := 2) d_C_readWord_48 rfl rfl ?_
          refine vj_goto G (tgt := 53) d_C_readWord_49 (by decide) ?_
          cases hF
          exact vj_iret G0 hx1 d_C_readWord_53
set_option maxHeartbeats 4000000 in
set_option maxRecDepth 100000 in
theorem wl_C_readWord_2 {w : Wd} {X : Cx} {r : Int} {M9 : Mm} (G0 : Gx LC w X "WhoRules$Charters" b_C_readWord 3 11 422 (some .int)) (n : Nat) : ∀ (f : Nat) (x1 : Int) (hx1 : inR x1) (M : Mm), lp_C_readWord_2 n f x1 M = some (r, M9) → VJ LC w X 3 1 r M9 M [(0, .ref (wa w 2)), (1, .int (i32 x1))] [] 2 := by
  intro f
  induction f with
  | zero => intro x1 hx1 M hF; cases hF
  | succ f ih => intro x1 hx1 M hF; exact wk_C_readWord_2 G0 n (lp_C_readWord_2 n f) ih x1 hx1 M hF
set_option maxHeartbeats 4000000 in
set_option maxRecDepth 100000 in
theorem ct_C_readWord {w : Wd} (hij : ij LC w) (n : Nat) {M : Mm} {r : Int} {M9 : Mm} (hF : f_C_readWord n  M = some (r, M9)) : Ct LC w y_C_readWord b_C_readWord 3 (some .int) 11 422 1 [.ref (wa w 2)] M r M9 := by
  refine Ct.of hij KstC (by decide +kernel) (Nat.le_of_ble_eq_true rfl) (fun X G0 => ?_)
  have G := G0.1
  show VJ LC w X 3 1 r M9 M [(0, .ref (wa w 2))] [] 0
  unfold f_C_readWord at hF
  refine vj_iconst G (v := 0) d_C_readWord_0 rfl ?_
  refine vj_istore_n G (lv2 := [(1, .int (i32 0)), (0, .ref (wa w 2))]) d_C_readWord_1 rfl (by decide) rfl ?_
  refine vj_sub [1, 0] rfl ?_
  exact wl_C_readWord_2 G0 n  n 0 ic_0 _ hF
set_option maxHeartbeats 4000000 in
set_option maxRecDepth 100000 in
theorem ct_C_put {w : Wd} (hij : ij LC w) (n : Nat) (x1 : Int) (hx1 : inR x1) {M : Mm} {r : Int} {M9 : Mm} (hF : f_C_put n x1 M = some (r, M9)) : Ct LC w y_C_put b_C_put 2 none 0 0 0 [.ref (wa w 2), .int (i32 x1)] M r M9 := by
  refine Ct.of hij KstC (by decide +kernel) (Nat.le_of_ble_eq_true rfl) (fun X G0 => ?_)
  have G := G0.1
  show VJ LC w X 2 0 r M9 M [(0, .ref (wa w 2)), (1, .int (i32 x1))] [] 0
  unfold f_C_put at hF
  refine vj_aload_n G (p9 := 0) d_C_put_0 rfl rfl ?_
  refine gfC_C_47 G d_C_put_1 ?_
  refine vj_mr (fun hM1 => ?_)
  refine vj_sipush G (v := 2000) d_C_put_4 rfl ?_
  refine vj_icmp_ge G (tgt := 30) d_C_put_7 (by decide) (mr_o hM1 lkC_2 flC_8_11) ic_2000 (fun c2 => ?_) (fun c2 => ?_)
  · rw [if_pos c2] at hF
    cases hF
    exact vj_vret G0 d_C_put_30
  · rw [if_neg c2] at hF
    refine vj_aload_n G (p9 := 0) d_C_put_10 rfl rfl ?_
    refine gfC_C_34 G d_C_put_11 ?_
    refine vj_aload_n G (p9 := 0) d_C_put_14 rfl rfl ?_
    refine gfC_C_47 G d_C_put_15 ?_
    refine vj_mr (fun hM3 => ?_)
    refine vj_iload_n G (p9 := 1) d_C_put_18 rfl rfl ?_
    obtain ⟨c4, hF⟩ := ck_some hF
    refine vj_iast G (x := (M 2 11)) lkC_37 (by decide) (by decide) (by decide) c4 hx1 d_C_put_19 ?_
    refine vj_aload_n G (p9 := 0) d_C_put_20 rfl rfl ?_
    refine vj_dup G d_C_put_21 rfl ?_
    refine gfC_C_47 G d_C_put_22 ?_
    refine vj_mr (fun hM5 => ?_)
    refine vj_iconst G (v := 1) d_C_put_25 rfl ?_
    refine vj_iadd G d_C_put_26 ?_
    refine pfC_C_47 G (ir_w _) d_C_put_27 ?_
    cases hF
    exact vj_vret G0 d_C_put_30
set_option maxHeartbeats 4000000 in
set_option maxRecDepth 100000 in
theorem wk_C_takesOneOf_50 {w : Wd} {X : Cx} {r : Int} {M9 : Mm} (G0 : Gx LC w X "WhoRules$Charters" b_C_takesOneOf 3 10 400 (some .int)) (n : Nat) (k2 : Int → Int → Mm → Rr) (hk2 : ∀ (x1 x2 : Int) (hx1 : 0 ≤ x1 ∧ x1 < 7) (hx2 : inR x2) (M : Mm), k2 x1 x2 M = some (r, M9) → VJ LC w X 3 1 r M9 M [(0, .ref (wa w 2)), (1, .ref (ws9 w x1.toNat)), (2, .int (i32 x2))] [] 2) (x1 x2 : Int) (hx1 : 0 ≤ x1 ∧ x1 < 7) (hx2 : inR x2) (M : Mm) (hF : f_C_takesOneOf_50 n k2 x1 x2 M = some (r, M9)) : VJ LC w X 3 1 r M9 M [(0, .ref (wa w 2)), (1, .ref (ws9 w x1.toNat)), (2, .int (i32 x2))] [] 50 := by
  have G := G0.1
  unfold f_C_takesOneOf_50 at hF
  refine vj_iinc G (p9 := 2) (n := 1) (lv2 := [(2, .int (i32 (w32 (x2 + 1)))), (0, .ref (wa w 2)), (1, .ref (ws9 w x1.toNat))]) d_C_takesOneOf_50 rfl (by decide) rfl ?_
  refine vj_goto G (tgt := 2) d_C_takesOneOf_53 (by decide) ?_
  refine vj_sub [1, 2, 0] rfl ?_
  exact hk2 x1 (w32 (x2 + 1)) hx1 (ir_w _) _ hF
set_option maxHeartbeats 4000000 in
set_option maxRecDepth 100000 in
theorem wk_C_takesOneOf_2 {w : Wd} {X : Cx} {r : Int} {M9 : Mm} (G0 : Gx LC w X "WhoRules$Charters" b_C_takesOneOf 3 10 400 (some .int)) (n : Nat) (k2 : Int → Int → Mm → Rr) (hk2 : ∀ (x1 x2 : Int) (hx1 : 0 ≤ x1 ∧ x1 < 7) (hx2 : inR x2) (M : Mm), k2 x1 x2 M = some (r, M9) → VJ LC w X 3 1 r M9 M [(0, .ref (wa w 2)), (1, .ref (ws9 w x1.toNat)), (2, .int (i32 x2))] [] 2) (x1 x2 : Int) (hx1 : 0 ≤ x1 ∧ x1 < 7) (hx2 : inR x2) (M : Mm) (hF : f_C_takesOneOf_2 n k2 x1 x2 M = some (r, M9)) : VJ LC w X 3 1 r M9 M [(0, .ref (wa w 2)), (1, .ref (ws9 w x1.toNat)), (2, .int (i32 x2))] [] 2 := by
  have G := G0.1
  unfold f_C_takesOneOf_2 at hF
  refine vj_iload_n G (p9 := 2) d_C_takesOneOf_2 rfl rfl ?_
  refine vj_aload_n G (p9 := 1) d_C_takesOneOf_3 rfl rfl ?_
  refine vj_sLen G0 hx1 q_718 (by decide) (by decide) (by decide) d_C_takesOneOf_4 ?_
  refine vj_icmp_ge G (tgt := 56) d_C_takesOneOf_7 (by decide) hx2 (ir_sLen _) (fun c1 => ?_) (fun c1 => ?_)
  · rw [if_pos c1] at hF
    refine vj_iconst G (v := (-1)) d_C_takesOneOf_56 rfl ?_
    cases hF
    exact vj_iret G0 ic_m1 d_C_takesOneOf_57
  · rw [if_neg c1] at hF
    refine vj_aload_n G (p9 := 0) d_C_takesOneOf_10 rfl rfl ?_
    refine gfC_C_41 G d_C_takesOneOf_11 ?_
    refine vj_mr (fun hM2 => ?_)
    refine vj_aload_n G (p9 := 0) d_C_takesOneOf_14 rfl rfl ?_
    refine gfC_C_37 G d_C_takesOneOf_15 ?_
    refine vj_icmp_ge G (tgt := 50) d_C_takesOneOf_18 (by decide) (mr_o hM2 lkC_2 flC_8_3) (mr_o hM2 lkC_2 flC_8_1) (fun c3 => ?_) (fun c3 => ?_)
    · rw [if_pos c3] at hF
      exact wk_C_takesOneOf_50 G0 n k2 hk2 x1 x2 hx1 hx2 _ hF
    · rw [if_neg c3] at hF
      refine vj_aload_n G (p9 := 0) d_C_takesOneOf_21 rfl rfl ?_
      refine gfC_C_11 G d_C_takesOneOf_22 ?_
      refine vj_aload_n G (p9 := 0) d_C_takesOneOf_25 rfl rfl ?_
      refine gfC_C_41 G d_C_takesOneOf_26 ?_
      refine vj_mr (fun hM4 => ?_)
      obtain ⟨c5, hF⟩ := ck_some hF
      refine vj_bald G (x := (M 2 3)) lkC_30 (by decide) c5 d_C_takesOneOf_29 ?_
      refine vj_aload_n G (p9 := 1) d_C_takesOneOf_30 rfl rfl ?_
      refine vj_iload_n G (p9 := 2) d_C_takesOneOf_31 rfl rfl ?_
      obtain ⟨c6, hF⟩ := ck_some hF
      refine vj_sChar G0 hx1 c6 q_674 (by decide) (by decide) (by decide) d_C_takesOneOf_32 ?_
      refine vj_icmp_ne G (tgt := 50) d_C_takesOneOf_35 (by decide) (mr_ab hM4 lkC_30) (ir_sCh _ _) (fun c7 => ?_) (fun c7 => ?_)
      · rw [if_pos c7] at hF
        exact wk_C_takesOneOf_50 G0 n k2 hk2 x1 x2 hx1 hx2 _ hF
      · rw [if_neg c7] at hF
        refine vj_aload_n G (p9 := 0) d_C_takesOneOf_38 rfl rfl ?_
        refine vj_dup G d_C_takesOneOf_39 rfl ?_
        refine gfC_C_41 G d_C_takesOneOf_40 ?_
        refine vj_mr (fun hM8 => ?_)
        refine vj_iconst G (v := 1) d_C_takesOneOf_43 rfl ?_
        refine vj_iadd G d_C_takesOneOf_44 ?_
        refine pfC_C_41 G (ir_w _) d_C_takesOneOf_45 ?_
        refine vj_iload_n G (p9 := 2) d_C_takesOneOf_48 rfl rfl ?_
        cases hF
        exact vj_iret G0 hx2 d_C_takesOneOf_49
set_option maxHeartbeats 4000000 in
set_option maxRecDepth 100000 in
theorem wl_C_takesOneOf_2 {w : Wd} {X : Cx} {r : Int} {M9 : Mm} (G0 : Gx LC w X "WhoRules$Charters" b_C_takesOneOf 3 10 400 (some .int)) (n : Nat) : ∀ (f : Nat) (x1 x2 : Int) (hx1 : 0 ≤ x1 ∧ x1 < 7) (hx2 : inR x2) (M : Mm), lp_C_takesOneOf_2 n f x1 x2 M = some (r, M9) → VJ LC w X 3 1 r M9 M [(0, .ref (wa w 2)), (1, .ref (ws9 w x1.toNat)), (2, .int (i32 x2))] [] 2 := by
  intro f
  induction f with
  | zero => intro x1 x2 hx1 hx2 M hF; cases hF
  | succ f ih => intro x1 x2 hx1 hx2 M hF; exact wk_C_takesOneOf_2 G0 n (lp_C_takesOneOf_2 n f) ih x1 x2 hx1 hx2 M hF
set_option maxHeartbeats 4000000 in
set_option maxRecDepth 100000 in
theorem ct_C_takesOneOf {w : Wd} (hij : ij LC w) (n : Nat) (x1 : Int) (hx1 : 0 ≤ x1 ∧ x1 < 7) {M : Mm} {r : Int} {M9 : Mm} (hF : f_C_takesOneOf n x1 M = some (r, M9)) : Ct LC w y_C_takesOneOf b_C_takesOneOf 3 (some .int) 10 400 1 [.ref (wa w 2), .ref (ws9 w x1.toNat)] M r M9 := by
  refine Ct.of hij KstC (by decide +kernel) (Nat.le_of_ble_eq_true rfl) (fun X G0 => ?_)
  have G := G0.1
  show VJ LC w X 3 1 r M9 M [(0, .ref (wa w 2)), (1, .ref (ws9 w x1.toNat))] [] 0
  unfold f_C_takesOneOf at hF
  refine vj_iconst G (v := 0) d_C_takesOneOf_0 rfl ?_
  refine vj_istore_n G (lv2 := [(2, .int (i32 0)), (0, .ref (wa w 2)), (1, .ref (ws9 w x1.toNat))]) d_C_takesOneOf_1 rfl (by decide) rfl ?_
  refine vj_sub [1, 2, 0] rfl ?_
  exact wl_C_takesOneOf_2 G0 n  n x1 0 hx1 ic_0 _ hF
set_option maxHeartbeats 4000000 in
set_option maxRecDepth 100000 in
theorem wk_C_readNumber_108 {w : Wd} {X : Cx} {r : Int} {M9 : Mm} (G0 : Gx LC w X "WhoRules$Charters" b_C_readNumber 4 0 0 (some .int)) (n : Nat) (s1 s2 : Int) (hs1 : inR s1) (hs2 : inB s2) (M : Mm) (hF : f_C_readNumber_108 n s1 s2 M = some (r, M9)) : VJ LC w X 4 1 r M9 M [] [.int (i32 s2), .int (i32 s1), .ref (wa w 2)] 108 := by
  have G := G0.1
  unfold f_C_readNumber_108 at hF
  refine vj_isub G d_C_readNumber_108 ?_
  refine pfC_C_41 G (ir_w _) d_C_readNumber_109 ?_
  refine vj_iconst G (v := (-1)) d_C_readNumber_112 rfl ?_
  cases hF
  exact vj_iret G0 ic_m1 d_C_readNumber_113
set_option maxHeartbeats 4000000 in
set_option maxRecDepth 100000 in
theorem wk_C_readNumber_82 {w : Wd} {X : Cx} {r : Int} {M9 : Mm} (G0 : Gx LC w X "WhoRules$Charters" b_C_readNumber 4 0 0 (some .int)) (n : Nat) (x1 x2 x3 : Int) (hx1 : inR x1) (hx2 : inR x2) (hx3 : inR x3) (M : Mm) (hF : f_C_readNumber_82 n x1 x2 x3 M = some (r, M9)) : VJ LC w X 4 1 r M9 M [(0, .ref (wa w 2)), (1, .int (i32 x1)), (2, .int (i32 x2)), (3, .int (i32 x3))] [] 82 := by
  have G := G0.1
  unfold f_C_readNumber_82 at hF
  refine vj_iload_n G (p9 := 3) d_C_readNumber_82 rfl rfl ?_
  refine vj_if_ne G (tgt := 88) d_C_readNumber_83 (by decide) hx3 (fun c1 => ?_) (fun c1 => ?_)
  · rw [if_pos c1] at hF
    refine vj_iload_n G (p9 := 2) d_C_readNumber_88 rfl rfl ?_
    refine vj_iload_n G (p9 := 1) d_C_readNumber_89 rfl rfl ?_
    refine vj_icmp_ge G (tgt := 114) d_C_readNumber_90 (by decide) hx2 hx1 (fun c2 => ?_) (fun c2 => ?_)
    · rw [if_pos c2] at hF
      refine vj_iload_n G (p9 := 2) d_C_readNumber_114 rfl rfl ?_
      cases hF
      exact vj_iret G0 hx2 d_C_readNumber_115
    · rw [if_neg c2] at hF
      refine vj_aload_n G (p9 := 0) d_C_readNumber_93 rfl rfl ?_
      refine vj_dup G d_C_readNumber_94 rfl ?_
      refine gfC_C_41 G d_C_readNumber_95 ?_
      refine vj_mr (fun hM3 => ?_)
      refine vj_iload_n G (p9 := 3) d_C_readNumber_98 rfl rfl ?_
      refine vj_iconst G (v := 3) d_C_readNumber_99 rfl ?_
      refine vj_icmp_ne G (tgt := 107) d_C_readNumber_100 (by decide) hx3 ic_3 (fun c4 => ?_) (fun c4 => ?_)
      · rw [if_pos c4] at hF
        refine vj_iconst G (v := 0) d_C_readNumber_107 rfl ?_
        refine vj_sub [] rfl ?_
        exact wk_C_readNumber_108 G0 n  (M 2 3) 0 (mr_o hM3 lkC_2 flC_8_3) (Or.inl rfl) _ hF
      · rw [if_neg c4] at hF
        refine vj_iconst G (v := 1) d_C_readNumber_103 rfl ?_
        refine vj_goto G (tgt := 108) d_C_readNumber_104 (by decide) ?_
        refine vj_sub [] rfl ?_
        exact wk_C_readNumber_108 G0 n  (M 2 3) 1 (mr_o hM3 lkC_2 flC_8_3) (Or.inr rfl) _ hF
  · rw [if_neg c1] at hF
    refine vj_iconst G (v := (-1)) d_C_readNumber_86 rfl ?_
    cases hF
    exact vj_iret G0 ic_m1 d_C_readNumber_87
set_option maxHeartbeats 4000000 in
set_option maxRecDepth 100000 in
theorem wk_C_readNumber_4 {w : Wd} {X : Cx} {r : Int} {M9 : Mm} (G0 : Gx LC w X "WhoRules$Charters" b_C_readNumber 4 0 0 (some .int)) (n : Nat) (k4 : Int → Int → Int → Mm → Rr) (hk4 : ∀ (x1 x2 x3 : Int) (hx1 : inR x1) (hx2 : inR x2) (hx3 : inR x3) (M : Mm), k4 x1 x2 x3 M = some (r, M9) → VJ LC w X 4 1 r M9 M [(0, .ref (wa w 2)), (1, .int (i32 x1)), (2, .int (i32 x2)), (3, .int (i32 x3))] [] 4) (x1 x2 x3 : Int) (hx1 : inR x1) (hx2 : inR x2) (hx3 : inR x3) (M : Mm) (hF : f_C_readNumber_4 n k4 x1 x2 x3 M = some (r, M9)) : VJ LC w X 4 1 r M9 M [(0, .ref (wa w 2)), (1, .int (i32 x1)), (2, .int (i32 x2)), (3, .int (i32 x3))] [] 4 := by
  have G := G0.1
  unfold f_C_readNumber_4 at hF
  refine vj_iload_n G (p9 := 3) d_C_readNumber_4 rfl rfl ?_
  refine vj_iconst G (v := 3) d_C_readNumber_5 rfl ?_
  refine vj_icmp_ge G (tgt := 82) d_C_readNumber_6 (by decide) hx3 ic_3 (fun c1 => ?_) (fun c1 => ?_)
  · rw [if_pos c1] at hF
    exact wk_C_readNumber_82 G0 n  x1 x2 x3 hx1 hx2 hx3 _ hF
  · rw [if_neg c1] at hF
    refine vj_aload_n G (p9 := 0) d_C_readNumber_9 rfl rfl ?_
    refine gfC_C_41 G d_C_readNumber_10 ?_
    refine vj_mr (fun hM2 => ?_)
    refine vj_aload_n G (p9 := 0) d_C_readNumber_13 rfl rfl ?_
    refine gfC_C_37 G d_C_readNumber_14 ?_
    refine vj_icmp_ge G (tgt := 82) d_C_readNumber_17 (by decide) (mr_o hM2 lkC_2 flC_8_3) (mr_o hM2 lkC_2 flC_8_1) (fun c3 => ?_) (fun c3 => ?_)
    · rw [if_pos c3] at hF
      exact wk_C_readNumber_82 G0 n  x1 x2 x3 hx1 hx2 hx3 _ hF
    · rw [if_neg c3] at hF
      refine vj_aload_n G (p9 := 0) d_C_readNumber_20 rfl rfl ?_
      refine gfC_C_11 G d_C_readNumber_21 ?_
      refine vj_aload_n G (p9 := 0) d_C_readNumber_24 rfl rfl ?_
      refine gfC_C_41 G d_C_readNumber_25 ?_
      refine vj_mr (fun hM4 => ?_)
      obtain ⟨c5, hF⟩ := ck_some hF
      refine vj_bald G (x := (M 2 3)) lkC_30 (by decide) c5 d_C_readNumber_28 ?_
      refine vj_bipush G (v := 48) d_C_readNumber_29 rfl ?_
      refine vj_icmp_lt G (tgt := 82) d_C_readNumber_31 (by decide) (mr_ab hM4 lkC_30) ic_48 (fun c6 => ?_) (fun c6 => ?_)
      · rw [if_pos c6] at hF
        exact wk_C_readNumber_82 G0 n  x1 x2 x3 hx1 hx2 hx3 _ hF
      · rw [if_neg c6] at hF
        refine vj_aload_n G (p9 := 0) d_C_readNumber_34 rfl rfl ?_
        refine gfC_C_11 G d_C_readNumber_35 ?_
        refine vj_aload_n G (p9 := 0) d_C_readNumber_38 rfl rfl ?_
        refine gfC_C_41 G d_C_readNumber_39 ?_
        refine vj_mr (fun hM7 => ?_)
        obtain ⟨c8, hF⟩ := ck_some hF
        refine vj_bald G (x := (M 2 3)) lkC_30 (by decide) c8 d_C_readNumber_42 ?_
        refine vj_bipush G (v := 57) d_C_readNumber_43 rfl ?_
        refine vj_icmp_gt G (tgt := 82) d_C_readNumber_45 (by decide) (mr_ab hM7 lkC_30) ic_57 (fun c9 => ?_) (fun c9 => ?_)
        · rw [if_pos c9] at hF
          exact wk_C_readNumber_82 G0 n  x1 x2 x3 hx1 hx2 hx3 _ hF
        · rw [if_neg c9] at hF
          refine vj_iload_n G (p9 := 2) d_C_readNumber_48 rfl rfl ?_
          refine vj_bipush G (v := 10) d_C_readNumber_49 rfl ?_
          refine vj_imul G d_C_readNumber_51 ?_
          refine vj_aload_n G (p9 := 0) d_C_readNumber_52 rfl rfl ?_
          refine gfC_C_11 G d_C_readNumber_53 ?_
          refine vj_aload_n G (p9 := 0) d_C_readNumber_56 rfl rfl ?_
          refine gfC_C_41 G d_C_readNumber_57 ?_
          refine vj_mr (fun hM10 => ?_)
          obtain ⟨c11, hF⟩ := ck_some hF
          refine vj_bald G (x := (M 2 3)) lkC_30 (by decide) c11 d_C_readNumber_60 ?_
          refine vj_iadd G d_C_readNumber_61 ?_
          refine vj_bipush G (v := 48) d_C_readNumber_62 rfl ?_
          refine vj_isub G d_C_readNumber_64 ?_
          refine vj_istore_n G (lv2 := [(2, .int (i32 (w32 ((w32 ((w32 (x2 * 10)) + (M 30 (M 2 3).toNat))) - 48)))), (0, .ref (wa w 2)), (1, .int (i32 x1)), (3, .int (i32 x3))]) d_C_readNumber_65 rfl (by decide) rfl ?_
          refine vj_iinc G (p9 := 3) (n := 1) (lv2 := [(3, .int (i32 (w32 (x3 + 1)))), (2, .int (i32 (w32 ((w32 ((w32 (x2 * 10)) + (M 30 (M 2 3).toNat))) - 48)))), (0, .ref (wa w 2)), (1, .int (i32 x1))]) d_C_readNumber_66 rfl (by decide) rfl ?_
          refine vj_aload_n G (p9 := 2) d_C_readNumber_69 rfl rfl ?_
          refine vj_dup G d_C_readNumber_70 rfl ?_
          refine gfC_C_41 G d_C_readNumber_71 ?_
          refine vj_iconst G (v := 1) d_C_readNumber_74 rfl ?_
          refine vj_iadd G d_C_readNumber_75 ?_
          refine pfC_C_41 G (ir_w _) d_C_readNumber_76 ?_
          refine vj_goto G (tgt := 4) d_C_readNumber_79 (by decide) ?_
          refine vj_sub [2, 3, 1, 0] rfl ?_
          exact hk4 x1 (w32 ((w32 ((w32 (x2 * 10)) + (M 30 (M 2 3).toNat))) - 48)) (w32 (x3 + 1)) hx1 (ir_w _) (ir_w _) _ hF
set_option maxHeartbeats 4000000 in
set_option maxRecDepth 100000 in
theorem wl_C_readNumber_4 {w : Wd} {X : Cx} {r : Int} {M9 : Mm} (G0 : Gx LC w X "WhoRules$Charters" b_C_readNumber 4 0 0 (some .int)) (n : Nat) : ∀ (f : Nat) (x1 x2 x3 : Int) (hx1 : inR x1) (hx2 : inR x2) (hx3 : inR x3) (M : Mm), lp_C_readNumber_4 n f x1 x2 x3 M = some (r, M9) → VJ LC w X 4 1 r M9 M [(0, .ref (wa w 2)), (1, .int (i32 x1)), (2, .int (i32 x2)), (3, .int (i32 x3))] [] 4 := by
  intro f
  induction f with
  | zero => intro x1 x2 x3 hx1 hx2 hx3 M hF; cases hF
  | succ f ih => intro x1 x2 x3 hx1 hx2 hx3 M hF; exact wk_C_readNumber_4 G0 n (lp_C_readNumber_4 n f) ih x1 x2 x3 hx1 hx2 hx3 M hF
set_option maxHeartbeats 4000000 in
set_option maxRecDepth 100000 in
theorem ct_C_readNumber {w : Wd} (hij : ij LC w) (n : Nat) (x1 : Int) (hx1 : inR x1) {M : Mm} {r : Int} {M9 : Mm} (hF : f_C_readNumber n x1 M = some (r, M9)) : Ct LC w y_C_readNumber b_C_readNumber 4 (some .int) 0 0 1 [.ref (wa w 2), .int (i32 x1)] M r M9 := by
  refine Ct.of hij KstC (by decide +kernel) (Nat.le_of_ble_eq_true rfl) (fun X G0 => ?_)
  have G := G0.1
  show VJ LC w X 4 1 r M9 M [(0, .ref (wa w 2)), (1, .int (i32 x1))] [] 0
  unfold f_C_readNumber at hF
  refine vj_iconst G (v := 0) d_C_readNumber_0 rfl ?_
  refine vj_istore_n G (lv2 := [(2, .int (i32 0)), (0, .ref (wa w 2)), (1, .int (i32 x1))]) d_C_readNumber_1 rfl (by decide) rfl ?_
  refine vj_iconst G (v := 0) d_C_readNumber_2 rfl ?_
  refine vj_istore_n G (lv2 := [(3, .int (i32 0)), (2, .int (i32 0)), (0, .ref (wa w 2)), (1, .int (i32 x1))]) d_C_readNumber_3 rfl (by decide) rfl ?_
  refine vj_sub [2, 3, 1, 0] rfl ?_
  exact wl_C_readNumber_4 G0 n  n x1 0 0 hx1 ic_0 ic_0 _ hF
set_option maxHeartbeats 4000000 in
set_option maxRecDepth 100000 in
theorem wk_C_readTest_35 {w : Wd} {X : Cx} {r : Int} {M9 : Mm} (G0 : Gx LC w X "WhoRules$Charters" b_C_readTest 4 11 422 (some .boolean)) (n : Nat) (x1 x2 s0 : Int) (hx1 : inR x1) (hx2 : inR x2) (hs0 : inR s0) (M : Mm) (hF : f_C_readTest_35 n x1 x2 s0 M = some (r, M9)) : VJ LC w X 4 3 r M9 M [(0, .ref (wa w 2)), (1, .int (i32 x1)), (2, .int (i32 x2))] [.int (i32 s0)] 35 := by
  have G := G0.1
  unfold f_C_readTest_35 at hF
  refine vj_istore_n G (lv2 := [(3, .int (i32 s0)), (0, .ref (wa w 2)), (1, .int (i32 x1)), (2, .int (i32 x2))]) d_C_readTest_35 rfl (by decide) rfl ?_
  refine vj_iload_n G (p9 := 0) d_C_readTest_36 rfl rfl ?_
  refine vj_if_ge G (tgt := 42) d_C_readTest_37 (by decide) hs0 (fun c1 => ?_) (fun c1 => ?_)
  · rw [if_pos c1] at hF
    refine vj_aload_n G (p9 := 1) d_C_readTest_42 rfl rfl ?_
    refine vj_iload_n G (p9 := 2) d_C_readTest_43 rfl rfl ?_
    refine vj_sipush G (v := 3000) d_C_readTest_44 rfl ?_
    refine vj_imul G d_C_readTest_47 ?_
    refine vj_iload_n G (p9 := 3) d_C_readTest_48 rfl rfl ?_
    refine vj_sipush G (v := 1000) d_C_readTest_49 rfl ?_
    refine vj_imul G d_C_readTest_52 ?_
    refine vj_iadd G d_C_readTest_53 ?_
    refine vj_iload_n G (p9 := 0) d_C_readTest_54 rfl rfl ?_
    refine vj_iadd G d_C_readTest_55 ?_
    obtain ⟨r2, M2, e2, hF⟩ := bnd_some hF
    refine vj_callV0 G (ct_C_put (gx_ij G) n (w32 ((w32 ((w32 (x1 * 3000)) + (w32 (x2 * 1000)))) + s0)) (ir_w _) e2) lkC_2 clC_8 rfl q_746 cq_C_put rfl (by decide) (by decide) (Nat.le_of_ble_eq_true rfl) d_C_readTest_56 rfl (fun hr2 => ?_)
    refine vj_iconst G (v := 1) d_C_readTest_59 rfl ?_
    cases hF
    exact vj_zret G0 (Or.inr rfl) d_C_readTest_60
  · rw [if_neg c1] at hF
    refine vj_iconst G (v := 0) d_C_readTest_40 rfl ?_
    cases hF
    exact vj_zret G0 (Or.inl rfl) d_C_readTest_41
set_option maxHeartbeats 4000000 in
set_option maxRecDepth 100000 in
theorem wk_C_readTest_21 {w : Wd} {X : Cx} {r : Int} {M9 : Mm} (G0 : Gx LC w X "WhoRules$Charters" b_C_readTest 4 11 422 (some .boolean)) (n : Nat) (x1 s0 : Int) (hx1 : inR x1) (hs0 : inR s0) (M : Mm) (hF : f_C_readTest_21 n x1 s0 M = some (r, M9)) : VJ LC w X 4 3 r M9 M [(0, .ref (wa w 2)), (1, .int (i32 x1))] [.int (i32 s0)] 21 := by
  have G := G0.1
  unfold f_C_readTest_21 at hF
  refine vj_istore_n G (lv2 := [(2, .int (i32 s0)), (0, .ref (wa w 2)), (1, .int (i32 x1))]) d_C_readTest_21 rfl (by decide) rfl ?_
  refine vj_iload_n G (p9 := 0) d_C_readTest_22 rfl rfl ?_
  refine vj_if_ge G (tgt := 30) d_C_readTest_23 (by decide) hs0 (fun c1 => ?_) (fun c1 => ?_)
  · rw [if_pos c1] at hF
    refine vj_aload_n G (p9 := 1) d_C_readTest_30 rfl rfl ?_
    refine vj_iconst G (v := 0) d_C_readTest_31 rfl ?_
    obtain ⟨r2, M2, e2, hF⟩ := bnd_some hF
    refine vj_callV1 G (ct_C_readNumber (gx_ij G) n 0 ic_0 e2) lkC_2 clC_8 rfl q_760 cq_C_readNumber rfl (by decide) (by decide) (Nat.le_of_ble_eq_true rfl) d_C_readTest_32 rfl (fun hr2 => ?_)
    refine vj_sub [1, 2, 0] rfl ?_
    exact wk_C_readTest_35 G0 n  x1 s0 r2 hx1 hs0 hr2 _ hF
  · rw [if_neg c1] at hF
    refine vj_iconst G (v := (-1)) d_C_readTest_26 rfl ?_
    refine vj_goto G (tgt := 35) d_C_readTest_27 (by decide) ?_
    refine vj_sub [1, 2, 0] rfl ?_
    exact wk_C_readTest_35 G0 n  x1 s0 (-1) hx1 hs0 ic_m1 _ hF
set_option maxHeartbeats 4000000 in
set_option maxRecDepth 100000 in
theorem ct_C_readTest {w : Wd} (hij : ij LC w) (n : Nat) {M : Mm} {r : Int} {M9 : Mm} (hF : f_C_readTest n  M = some (r, M9)) : Ct LC w y_C_readTest b_C_readTest 4 (some .boolean) 11 422 3 [.ref (wa w 2)] M r M9 := by
  refine Ct.of hij KstC (by decide +kernel) (Nat.le_of_ble_eq_true rfl) (fun X G0 => ?_)
  have G := G0.1
  show VJ LC w X 4 3 r M9 M [(0, .ref (wa w 2))] [] 0
  unfold f_C_readTest at hF
  refine vj_aload_n G (p9 := 0) d_C_readTest_0 rfl rfl ?_
  refine vj_ldcS G0 (v := 5) d_C_readTest_1 sr_5 ?_
  obtain ⟨r1, M1, e1, hF⟩ := bnd_some hF
  refine vj_callV1 G (ct_C_takesOneOf (gx_ij G) n 5 ⟨by decide, by decide⟩ e1) lkC_2 clC_8 rfl q_755 cq_C_takesOneOf rfl (by decide) (by decide) (Nat.le_of_ble_eq_true rfl) d_C_readTest_3 rfl (fun hr1 => ?_)
  refine vj_istore_n G (lv2 := [(1, .int (i32 r1)), (0, .ref (wa w 2))]) d_C_readTest_6 rfl (by decide) rfl ?_
  refine vj_iload_n G (p9 := 0) d_C_readTest_7 rfl rfl ?_
  refine vj_if_ge G (tgt := 15) d_C_readTest_8 (by decide) hr1 (fun c2 => ?_) (fun c2 => ?_)
  · rw [if_pos c2] at hF
    refine vj_aload_n G (p9 := 1) d_C_readTest_15 rfl rfl ?_
    refine vj_ldcS G0 (v := 6) d_C_readTest_16 sr_6 ?_
    obtain ⟨r3, M3, e3, hF⟩ := bnd_some hF
    refine vj_callV1 G (ct_C_takesOneOf (gx_ij G) n 6 ⟨by decide, by decide⟩ e3) lkC_2 clC_8 rfl q_755 cq_C_takesOneOf rfl (by decide) (by decide) (Nat.le_of_ble_eq_true rfl) d_C_readTest_18 rfl (fun hr3 => ?_)
    refine vj_sub [1, 0] rfl ?_
    exact wk_C_readTest_21 G0 n  r1 r3 hr1 hr3 _ hF
  · rw [if_neg c2] at hF
    refine vj_iconst G (v := (-1)) d_C_readTest_11 rfl ?_
    refine vj_goto G (tgt := 21) d_C_readTest_12 (by decide) ?_
    refine vj_sub [1, 0] rfl ?_
    exact wk_C_readTest_21 G0 n  r1 (-1) hr1 ic_m1 _ hF
def HR_rd (w : Wd) (d : Nat) (rec : Nat → Int → Mm → Rr) : Prop := (∀ (x1 : Int) (M : Mm) (r : Int) (M1 : Mm), inR x1 → rec 0 x1 M = some (r, M1) → Ct LC w y_C_readAny b_C_readAny 3 (some .boolean) (12 + d) (445 + 22 * d) 3 [.ref (wa w 2), .int (i32 x1)] M r M1) ∧ (∀ (x1 : Int) (M : Mm) (r : Int) (M1 : Mm), inR x1 → rec 1 x1 M = some (r, M1) → Ct LC w y_C_readEvery b_C_readEvery 3 (some .boolean) (12 + d) (445 + 22 * d) 3 [.ref (wa w 2), .int (i32 x1)] M r M1) ∧ (∀ (x1 : Int) (M : Mm) (r : Int) (M1 : Mm), inR x1 → rec 2 x1 M = some (r, M1) → Ct LC w y_C_readOne b_C_readOne 2 (some .boolean) (12 + d) (445 + 22 * d) 3 [.ref (wa w 2), .int (i32 x1)] M r M1) ∧ (∀ (x1 : Int) (M : Mm) (r : Int) (M1 : Mm), inR x1 → rec 3 x1 M = some (r, M1) → Ct LC w y_C_readNot b_C_readNot 2 (some .boolean) (12 + d) (445 + 22 * d) 3 [.ref (wa w 2), .int (i32 x1)] M r M1)
theorem hrec_C_readAny {w : Wd} {d : Nat} {rec : Nat → Int → Mm → Rr} (h : HR_rd w d rec) (x1 : Int) (hx1 : inR x1) {M : Mm} {r : Int} {M1 : Mm} (e : rec 0 x1 M = some (r, M1)) : Ct LC w y_C_readAny b_C_readAny 3 (some .boolean) (12 + d) (445 + 22 * d) 3 [.ref (wa w 2), .int (i32 x1)] M r M1 := h.1 x1 M r M1 hx1 e
theorem hrec_C_readEvery {w : Wd} {d : Nat} {rec : Nat → Int → Mm → Rr} (h : HR_rd w d rec) (x1 : Int) (hx1 : inR x1) {M : Mm} {r : Int} {M1 : Mm} (e : rec 1 x1 M = some (r, M1)) : Ct LC w y_C_readEvery b_C_readEvery 3 (some .boolean) (12 + d) (445 + 22 * d) 3 [.ref (wa w 2), .int (i32 x1)] M r M1 := h.2.1 x1 M r M1 hx1 e
theorem hrec_C_readOne {w : Wd} {d : Nat} {rec : Nat → Int → Mm → Rr} (h : HR_rd w d rec) (x1 : Int) (hx1 : inR x1) {M : Mm} {r : Int} {M1 : Mm} (e : rec 2 x1 M = some (r, M1)) : Ct LC w y_C_readOne b_C_readOne 2 (some .boolean) (12 + d) (445 + 22 * d) 3 [.ref (wa w 2), .int (i32 x1)] M r M1 := h.2.2.1 x1 M r M1 hx1 e
theorem hrec_C_readNot {w : Wd} {d : Nat} {rec : Nat → Int → Mm → Rr} (h : HR_rd w d rec) (x1 : Int) (hx1 : inR x1) {M : Mm} {r : Int} {M1 : Mm} (e : rec 3 x1 M = some (r, M1)) : Ct LC w y_C_readNot b_C_readNot 2 (some .boolean) (12 + d) (445 + 22 * d) 3 [.ref (wa w 2), .int (i32 x1)] M r M1 := h.2.2.2 x1 M r M1 hx1 e
set_option maxHeartbeats 4000000 in
set_option maxRecDepth 100000 in
theorem cr_C_readNot {w : Wd} {d : Nat} (hij : ij LC w) (n : Nat) (rec : Nat → Int → Mm → Rr) (hrec : HR_rd w d rec) (x1 : Int) (hx1 : inR x1) {M : Mm} {r : Int} {M9 : Mm} (hF : f_C_readNot n rec x1 M = some (r, M9)) : Ct LC w y_C_readNot b_C_readNot 2 (some .boolean) (12 + d + 1) (445 + 22 * (d + 1)) 3 [.ref (wa w 2), .int (i32 x1)] M r M9 := by
  refine Ct.of hij KstC (by decide +kernel) (Nat.le_of_ble_eq_true rfl) (fun X G0 => ?_)
  have G := G0.1
  show VJ LC w X 2 3 r M9 M [(0, .ref (wa w 2)), (1, .int (i32 x1))] [] 0
  unfold f_C_readNot at hF
  refine vj_aload_n G (p9 := 0) d_C_readNot_0 rfl rfl ?_
  refine vj_iload_n G (p9 := 1) d_C_readNot_1 rfl rfl ?_
  obtain ⟨r1, M1, e1, hF⟩ := bnd_some hF
  refine vj_callV3 G (hrec_C_readOne hrec x1 hx1 e1) lkC_2 clC_8 rfl q_738 cq_C_readOne rfl (by omega) (by omega) (Nat.le_of_ble_eq_true rfl) d_C_readNot_2 rfl (fun hr1 => ?_)
  refine vj_if_ne G (tgt := 10) d_C_readNot_5 (by decide) (ir_b hr1) (fun c2 => ?_) (fun c2 => ?_)
  · rw [if_pos c2] at hF
    refine vj_aload_n G (p9 := 0) d_C_readNot_10 rfl rfl ?_
    refine vj_bipush G (v := (-3)) d_C_readNot_11 rfl ?_
    obtain ⟨r3, M3, e3, hF⟩ := bnd_some hF
    refine vj_callV0 G (ct_C_put (gx_ij G) n (-3) ic_m3 e3) lkC_2 clC_8 rfl q_746 cq_C_put rfl (by omega) (by omega) (Nat.le_of_ble_eq_true rfl) d_C_readNot_13 rfl (fun hr3 => ?_)
    refine vj_iconst G (v := 1) d_C_readNot_16 rfl ?_
    cases hF
    exact vj_zret G0 (Or.inr rfl) d_C_readNot_17
  · rw [if_neg c2] at hF
    refine vj_iconst G (v := 0) d_C_readNot_8 rfl ?_
    cases hF
    exact vj_zret G0 (Or.inl rfl) d_C_readNot_9
set_option maxHeartbeats 4000000 in
set_option maxRecDepth 100000 in
theorem wk_C_readOne_61 {w : Wd} {X : Cx} {r : Int} {M9 : Mm} {d : Nat} (G0 : Gx LC w X "WhoRules$Charters" b_C_readOne 2 (12 + d + 1) (445 + 22 * (d + 1)) (some .boolean)) (n : Nat) (rec : Nat → Int → Mm → Rr) (hrec : HR_rd w d rec) (M : Mm) (hF : f_C_readOne_61 n rec  M = some (r, M9)) : VJ LC w X 2 3 r M9 M [(0, .ref (wa w 2))] [] 61 := by
  have G := G0.1
  unfold f_C_readOne_61 at hF
  refine vj_aload_n G (p9 := 0) d_C_readOne_61 rfl rfl ?_
  obtain ⟨r1, M1, e1, hF⟩ := bnd_some hF
  refine vj_callV3 G (ct_C_readTest (gx_ij G) n   e1) lkC_2 clC_8 rfl q_750 cq_C_readTest rfl (by omega) (by omega) (Nat.le_of_ble_eq_true rfl) d_C_readOne_62 rfl (fun hr1 => ?_)
  cases hF
  exact vj_zret G0 hr1 d_C_readOne_65
set_option maxHeartbeats 4000000 in
set_option maxRecDepth 100000 in
theorem wk_C_readOne_59 {w : Wd} {X : Cx} {r : Int} {M9 : Mm} {d : Nat} (G0 : Gx LC w X "WhoRules$Charters" b_C_readOne 2 (12 + d + 1) (445 + 22 * (d + 1)) (some .boolean)) (n : Nat) (rec : Nat → Int → Mm → Rr) (hrec : HR_rd w d rec) (M : Mm) (hF : f_C_readOne_59 n rec  M = some (r, M9)) : VJ LC w X 2 3 r M9 M [] [] 59 := by
  have G := G0.1
  unfold f_C_readOne_59 at hF
  refine vj_iconst G (v := 0) d_C_readOne_59 rfl ?_
  cases hF
  exact vj_zret G0 (Or.inl rfl) d_C_readOne_60
set_option maxHeartbeats 4000000 in
set_option maxRecDepth 100000 in
theorem wk_C_readOne_22 {w : Wd} {X : Cx} {r : Int} {M9 : Mm} {d : Nat} (G0 : Gx LC w X "WhoRules$Charters" b_C_readOne 2 (12 + d + 1) (445 + 22 * (d + 1)) (some .boolean)) (n : Nat) (rec : Nat → Int → Mm → Rr) (hrec : HR_rd w d rec) (x1 : Int) (hx1 : inR x1) (M : Mm) (hF : f_C_readOne_22 n rec x1 M = some (r, M9)) : VJ LC w X 2 3 r M9 M [(0, .ref (wa w 2)), (1, .int (i32 x1))] [] 22 := by
  have G := G0.1
  unfold f_C_readOne_22 at hF
  refine vj_iload_n G (p9 := 1) d_C_readOne_22 rfl rfl ?_
  refine vj_iconst G (v := 4) d_C_readOne_23 rfl ?_
  refine vj_icmp_ge G (tgt := 61) d_C_readOne_24 (by decide) hx1 ic_4 (fun c1 => ?_) (fun c1 => ?_)
  · rw [if_pos c1] at hF
    refine vj_sub [0] rfl ?_
    exact wk_C_readOne_61 G0 n rec hrec    _ hF
  · rw [if_neg c1] at hF
    refine vj_aload_n G (p9 := 0) d_C_readOne_27 rfl rfl ?_
    refine vj_bipush G (v := 40) d_C_readOne_28 rfl ?_
    obtain ⟨r2, M2, e2, hF⟩ := bnd_some hF
    refine vj_callV3 G (ct_C_takes (gx_ij G) n 40 ic_40 e2) lkC_2 clC_8 rfl q_726 cq_C_takes rfl (by omega) (by omega) (Nat.le_of_ble_eq_true rfl) d_C_readOne_30 rfl (fun hr2 => ?_)
    refine vj_if_eq G (tgt := 61) d_C_readOne_33 (by decide) (ir_b hr2) (fun c3 => ?_) (fun c3 => ?_)
    · rw [if_pos c3] at hF
      refine vj_sub [0] rfl ?_
      exact wk_C_readOne_61 G0 n rec hrec    _ hF
    · rw [if_neg c3] at hF
      refine vj_aload_n G (p9 := 0) d_C_readOne_36 rfl rfl ?_
      refine vj_iload_n G (p9 := 1) d_C_readOne_37 rfl rfl ?_
      refine vj_iconst G (v := 1) d_C_readOne_38 rfl ?_
      refine vj_iadd G d_C_readOne_39 ?_
      obtain ⟨r4, M4, e4, hF⟩ := bnd_some hF
      refine vj_callV3 G (hrec_C_readAny hrec (w32 (x1 + 1)) (ir_w _) e4) lkC_2 clC_8 rfl q_730 cq_C_readAny rfl (by omega) (by omega) (Nat.le_of_ble_eq_true rfl) d_C_readOne_40 rfl (fun hr4 => ?_)
      refine vj_if_eq G (tgt := 59) d_C_readOne_43 (by decide) (ir_b hr4) (fun c5 => ?_) (fun c5 => ?_)
      · rw [if_pos c5] at hF
        refine vj_sub [] rfl ?_
        exact wk_C_readOne_59 G0 n rec hrec    _ hF
      · rw [if_neg c5] at hF
        refine vj_aload_n G (p9 := 0) d_C_readOne_46 rfl rfl ?_
        refine vj_bipush G (v := 41) d_C_readOne_47 rfl ?_
        obtain ⟨r6, M6, e6, hF⟩ := bnd_some hF
        refine vj_callV3 G (ct_C_takes (gx_ij G) n 41 ic_41 e6) lkC_2 clC_8 rfl q_726 cq_C_takes rfl (by omega) (by omega) (Nat.le_of_ble_eq_true rfl) d_C_readOne_49 rfl (fun hr6 => ?_)
        refine vj_if_eq G (tgt := 59) d_C_readOne_52 (by decide) (ir_b hr6) (fun c7 => ?_) (fun c7 => ?_)
        · rw [if_pos c7] at hF
          refine vj_sub [] rfl ?_
          exact wk_C_readOne_59 G0 n rec hrec    _ hF
        · rw [if_neg c7] at hF
          refine vj_iconst G (v := 1) d_C_readOne_55 rfl ?_
          refine vj_goto G (tgt := 60) d_C_readOne_56 (by decide) ?_
          cases hF
          exact vj_zret G0 (Or.inr rfl) d_C_readOne_60
set_option maxHeartbeats 4000000 in
set_option maxRecDepth 100000 in
theorem cr_C_readOne {w : Wd} {d : Nat} (hij : ij LC w) (n : Nat) (rec : Nat → Int → Mm → Rr) (hrec : HR_rd w d rec) (x1 : Int) (hx1 : inR x1) {M : Mm} {r : Int} {M9 : Mm} (hF : f_C_readOne n rec x1 M = some (r, M9)) : Ct LC w y_C_readOne b_C_readOne 2 (some .boolean) (12 + d + 1) (445 + 22 * (d + 1)) 3 [.ref (wa w 2), .int (i32 x1)] M r M9 := by
  refine Ct.of hij KstC (by decide +kernel) (Nat.le_of_ble_eq_true rfl) (fun X G0 => ?_)
  have G := G0.1
  show VJ LC w X 2 3 r M9 M [(0, .ref (wa w 2)), (1, .int (i32 x1))] [] 0
  unfold f_C_readOne at hF
  refine vj_iload_n G (p9 := 1) d_C_readOne_0 rfl rfl ?_
  refine vj_iconst G (v := 4) d_C_readOne_1 rfl ?_
  refine vj_icmp_ge G (tgt := 22) d_C_readOne_2 (by decide) hx1 ic_4 (fun c1 => ?_) (fun c1 => ?_)
  · rw [if_pos c1] at hF
    exact wk_C_readOne_22 G0 n rec hrec  x1 hx1 _ hF
  · rw [if_neg c1] at hF
    refine vj_aload_n G (p9 := 0) d_C_readOne_5 rfl rfl ?_
    refine vj_bipush G (v := 33) d_C_readOne_6 rfl ?_
    obtain ⟨r2, M2, e2, hF⟩ := bnd_some hF
    refine vj_callV3 G (ct_C_takes (gx_ij G) n 33 ic_33 e2) lkC_2 clC_8 rfl q_726 cq_C_takes rfl (by omega) (by omega) (Nat.le_of_ble_eq_true rfl) d_C_readOne_8 rfl (fun hr2 => ?_)
    refine vj_if_eq G (tgt := 22) d_C_readOne_11 (by decide) (ir_b hr2) (fun c3 => ?_) (fun c3 => ?_)
    · rw [if_pos c3] at hF
      exact wk_C_readOne_22 G0 n rec hrec  x1 hx1 _ hF
    · rw [if_neg c3] at hF
      refine vj_aload_n G (p9 := 0) d_C_readOne_14 rfl rfl ?_
      refine vj_iload_n G (p9 := 1) d_C_readOne_15 rfl rfl ?_
      refine vj_iconst G (v := 1) d_C_readOne_16 rfl ?_
      refine vj_iadd G d_C_readOne_17 ?_
      obtain ⟨r4, M4, e4, hF⟩ := bnd_some hF
      refine vj_callV3 G (hrec_C_readNot hrec (w32 (x1 + 1)) (ir_w _) e4) lkC_2 clC_8 rfl q_742 cq_C_readNot rfl (by omega) (by omega) (Nat.le_of_ble_eq_true rfl) d_C_readOne_18 rfl (fun hr4 => ?_)
      cases hF
      exact vj_zret G0 hr4 d_C_readOne_21
set_option maxHeartbeats 4000000 in
set_option maxRecDepth 100000 in
theorem wk_C_readEvery_12 {w : Wd} {X : Cx} {r : Int} {M9 : Mm} {d : Nat} (G0 : Gx LC w X "WhoRules$Charters" b_C_readEvery 3 (12 + d + 1) (445 + 22 * (d + 1)) (some .boolean)) (n : Nat) (rec : Nat → Int → Mm → Rr) (hrec : HR_rd w d rec) (k12 : Int → Int → Mm → Rr) (hk12 : ∀ (x1 x2 : Int) (hx1 : inR x1) (hx2 : inR x2) (M : Mm), k12 x1 x2 M = some (r, M9) → VJ LC w X 3 3 r M9 M [(0, .ref (wa w 2)), (1, .int (i32 x1)), (2, .int (i32 x2))] [] 12) (x1 x2 : Int) (hx1 : inR x1) (hx2 : inR x2) (M : Mm) (hF : f_C_readEvery_12 n rec k12 x1 x2 M = some (r, M9)) : VJ LC w X 3 3 r M9 M [(0, .ref (wa w 2)), (1, .int (i32 x1)), (2, .int (i32 x2))] [] 12 := by
  have G := G0.1
  unfold f_C_readEvery_12 at hF
  refine vj_iload_n G (p9 := 2) d_C_readEvery_12 rfl rfl ?_
  refine vj_bipush G (v := 100) d_C_readEvery_13 rfl ?_
  refine vj_icmp_ge G (tgt := 48) d_C_readEvery_15 (by decide) hx2 ic_100 (fun c1 => ?_) (fun c1 => ?_)
  · rw [if_pos c1] at hF
    refine vj_iconst G (v := 1) d_C_readEvery_48 rfl ?_
    cases hF
    exact vj_zret G0 (Or.inr rfl) d_C_readEvery_49
  · rw [if_neg c1] at hF
    refine vj_aload_n G (p9 := 0) d_C_readEvery_18 rfl rfl ?_
    refine vj_bipush G (v := 38) d_C_readEvery_19 rfl ?_
    obtain ⟨r2, M2, e2, hF⟩ := bnd_some hF
    refine vj_callV3 G (ct_C_takes (gx_ij G) n 38 ic_38 e2) lkC_2 clC_8 rfl q_726 cq_C_takes rfl (by omega) (by omega) (Nat.le_of_ble_eq_true rfl) d_C_readEvery_21 rfl (fun hr2 => ?_)
    refine vj_if_eq G (tgt := 48) d_C_readEvery_24 (by decide) (ir_b hr2) (fun c3 => ?_) (fun c3 => ?_)
    · rw [if_pos c3] at hF
      refine vj_iconst G (v := 1) d_C_readEvery_48 rfl ?_
      cases hF
      exact vj_zret G0 (Or.inr rfl) d_C_readEvery_49
    · rw [if_neg c3] at hF
      refine vj_aload_n G (p9 := 0) d_C_readEvery_27 rfl rfl ?_
      refine vj_iload_n G (p9 := 1) d_C_readEvery_28 rfl rfl ?_
      obtain ⟨r4, M4, e4, hF⟩ := bnd_some hF
      refine vj_callV3 G (hrec_C_readOne hrec x1 hx1 e4) lkC_2 clC_8 rfl q_738 cq_C_readOne rfl (by omega) (by omega) (Nat.le_of_ble_eq_true rfl) d_C_readEvery_29 rfl (fun hr4 => ?_)
      refine vj_if_ne G (tgt := 37) d_C_readEvery_32 (by decide) (ir_b hr4) (fun c5 => ?_) (fun c5 => ?_)
      · rw [if_pos c5] at hF
        refine vj_aload_n G (p9 := 0) d_C_readEvery_37 rfl rfl ?_
        refine vj_iconst G (v := (-1)) d_C_readEvery_38 rfl ?_
        obtain ⟨r6, M6, e6, hF⟩ := bnd_some hF
        refine vj_callV0 G (ct_C_put (gx_ij G) n (-1) ic_m1 e6) lkC_2 clC_8 rfl q_746 cq_C_put rfl (by omega) (by omega) (Nat.le_of_ble_eq_true rfl) d_C_readEvery_39 rfl (fun hr6 => ?_)
        refine vj_iinc G (p9 := 2) (n := 1) (lv2 := [(2, .int (i32 (w32 (x2 + 1)))), (0, .ref (wa w 2)), (1, .int (i32 x1))]) d_C_readEvery_42 rfl (by decide) rfl ?_
        refine vj_goto G (tgt := 12) d_C_readEvery_45 (by decide) ?_
        refine vj_sub [1, 2, 0] rfl ?_
        exact hk12 x1 (w32 (x2 + 1)) hx1 (ir_w _) _ hF
      · rw [if_neg c5] at hF
        refine vj_iconst G (v := 0) d_C_readEvery_35 rfl ?_
        cases hF
        exact vj_zret G0 (Or.inl rfl) d_C_readEvery_36
set_option maxHeartbeats 4000000 in
set_option maxRecDepth 100000 in
theorem wl_C_readEvery_12 {w : Wd} {X : Cx} {r : Int} {M9 : Mm} {d : Nat} (G0 : Gx LC w X "WhoRules$Charters" b_C_readEvery 3 (12 + d + 1) (445 + 22 * (d + 1)) (some .boolean)) (n : Nat) (rec : Nat → Int → Mm → Rr) (hrec : HR_rd w d rec) : ∀ (f : Nat) (x1 x2 : Int) (hx1 : inR x1) (hx2 : inR x2) (M : Mm), lp_C_readEvery_12 n rec f x1 x2 M = some (r, M9) → VJ LC w X 3 3 r M9 M [(0, .ref (wa w 2)), (1, .int (i32 x1)), (2, .int (i32 x2))] [] 12 := by
  intro f
  induction f with
  | zero => intro x1 x2 hx1 hx2 M hF; cases hF
  | succ f ih => intro x1 x2 hx1 hx2 M hF; exact wk_C_readEvery_12 G0 n rec hrec (lp_C_readEvery_12 n rec f) ih x1 x2 hx1 hx2 M hF
set_option maxHeartbeats 4000000 in
set_option maxRecDepth 100000 in
theorem cr_C_readEvery {w : Wd} {d : Nat} (hij : ij LC w) (n : Nat) (rec : Nat → Int → Mm → Rr) (hrec : HR_rd w d rec) (x1 : Int) (hx1 : inR x1) {M : Mm} {r : Int} {M9 : Mm} (hF : f_C_readEvery n rec x1 M = some (r, M9)) : Ct LC w y_C_readEvery b_C_readEvery 3 (some .boolean) (12 + d + 1) (445 + 22 * (d + 1)) 3 [.ref (wa w 2), .int (i32 x1)] M r M9 := by
  refine Ct.of hij KstC (by decide +kernel) (Nat.le_of_ble_eq_true rfl) (fun X G0 => ?_)
  have G := G0.1
  show VJ LC w X 3 3 r M9 M [(0, .ref (wa w 2)), (1, .int (i32 x1))] [] 0
  unfold f_C_readEvery at hF
  refine vj_aload_n G (p9 := 0) d_C_readEvery_0 rfl rfl ?_
  refine vj_iload_n G (p9 := 1) d_C_readEvery_1 rfl rfl ?_
  obtain ⟨r1, M1, e1, hF⟩ := bnd_some hF
  refine vj_callV3 G (hrec_C_readOne hrec x1 hx1 e1) lkC_2 clC_8 rfl q_738 cq_C_readOne rfl (by omega) (by omega) (Nat.le_of_ble_eq_true rfl) d_C_readEvery_2 rfl (fun hr1 => ?_)
  refine vj_if_ne G (tgt := 10) d_C_readEvery_5 (by decide) (ir_b hr1) (fun c2 => ?_) (fun c2 => ?_)
  · rw [if_pos c2] at hF
    refine vj_iconst G (v := 0) d_C_readEvery_10 rfl ?_
    refine vj_istore_n G (lv2 := [(2, .int (i32 0)), (0, .ref (wa w 2)), (1, .int (i32 x1))]) d_C_readEvery_11 rfl (by decide) rfl ?_
    refine vj_sub [1, 2, 0] rfl ?_
    exact wl_C_readEvery_12 G0 n rec hrec  n x1 0 hx1 ic_0 _ hF
  · rw [if_neg c2] at hF
    refine vj_iconst G (v := 0) d_C_readEvery_8 rfl ?_
    cases hF
    exact vj_zret G0 (Or.inl rfl) d_C_readEvery_9
set_option maxHeartbeats 4000000 in
set_option maxRecDepth 100000 in
theorem wk_C_readAny_12 {w : Wd} {X : Cx} {r : Int} {M9 : Mm} {d : Nat} (G0 : Gx LC w X "WhoRules$Charters" b_C_readAny 3 (12 + d + 1) (445 + 22 * (d + 1)) (some .boolean)) (n : Nat) (rec : Nat → Int → Mm → Rr) (hrec : HR_rd w d rec) (k12 : Int → Int → Mm → Rr) (hk12 : ∀ (x1 x2 : Int) (hx1 : inR x1) (hx2 : inR x2) (M : Mm), k12 x1 x2 M = some (r, M9) → VJ LC w X 3 3 r M9 M [(0, .ref (wa w 2)), (1, .int (i32 x1)), (2, .int (i32 x2))] [] 12) (x1 x2 : Int) (hx1 : inR x1) (hx2 : inR x2) (M : Mm) (hF : f_C_readAny_12 n rec k12 x1 x2 M = some (r, M9)) : VJ LC w X 3 3 r M9 M [(0, .ref (wa w 2)), (1, .int (i32 x1)), (2, .int (i32 x2))] [] 12 := by
  have G := G0.1
  unfold f_C_readAny_12 at hF
  refine vj_iload_n G (p9 := 2) d_C_readAny_12 rfl rfl ?_
  refine vj_bipush G (v := 100) d_C_readAny_13 rfl ?_
  refine vj_icmp_ge G (tgt := 49) d_C_readAny_15 (by decide) hx2 ic_100 (fun c1 => ?_) (fun c1 => ?_)
  · rw [if_pos c1] at hF
    refine vj_iconst G (v := 1) d_C_readAny_49 rfl ?_
    cases hF
    exact vj_zret G0 (Or.inr rfl) d_C_readAny_50
  · rw [if_neg c1] at hF
    refine vj_aload_n G (p9 := 0) d_C_readAny_18 rfl rfl ?_
    refine vj_bipush G (v := 124) d_C_readAny_19 rfl ?_
    obtain ⟨r2, M2, e2, hF⟩ := bnd_some hF
    refine vj_callV3 G (ct_C_takes (gx_ij G) n 124 ic_124 e2) lkC_2 clC_8 rfl q_726 cq_C_takes rfl (by omega) (by omega) (Nat.le_of_ble_eq_true rfl) d_C_readAny_21 rfl (fun hr2 => ?_)
    refine vj_if_eq G (tgt := 49) d_C_readAny_24 (by decide) (ir_b hr2) (fun c3 => ?_) (fun c3 => ?_)
    · rw [if_pos c3] at hF
      refine vj_iconst G (v := 1) d_C_readAny_49 rfl ?_
      cases hF
      exact vj_zret G0 (Or.inr rfl) d_C_readAny_50
    · rw [if_neg c3] at hF
      refine vj_aload_n G (p9 := 0) d_C_readAny_27 rfl rfl ?_
      refine vj_iload_n G (p9 := 1) d_C_readAny_28 rfl rfl ?_
      obtain ⟨r4, M4, e4, hF⟩ := bnd_some hF
      refine vj_callV3 G (hrec_C_readEvery hrec x1 hx1 e4) lkC_2 clC_8 rfl q_734 cq_C_readEvery rfl (by omega) (by omega) (Nat.le_of_ble_eq_true rfl) d_C_readAny_29 rfl (fun hr4 => ?_)
      refine vj_if_ne G (tgt := 37) d_C_readAny_32 (by decide) (ir_b hr4) (fun c5 => ?_) (fun c5 => ?_)
      · rw [if_pos c5] at hF
        refine vj_aload_n G (p9 := 0) d_C_readAny_37 rfl rfl ?_
        refine vj_bipush G (v := (-2)) d_C_readAny_38 rfl ?_
        obtain ⟨r6, M6, e6, hF⟩ := bnd_some hF
        refine vj_callV0 G (ct_C_put (gx_ij G) n (-2) ic_m2 e6) lkC_2 clC_8 rfl q_746 cq_C_put rfl (by omega) (by omega) (Nat.le_of_ble_eq_true rfl) d_C_readAny_40 rfl (fun hr6 => ?_)
        refine vj_iinc G (p9 := 2) (n := 1) (lv2 := [(2, .int (i32 (w32 (x2 + 1)))), (0, .ref (wa w 2)), (1, .int (i32 x1))]) d_C_readAny_43 rfl (by decide) rfl ?_
        refine vj_goto G (tgt := 12) d_C_readAny_46 (by decide) ?_
        refine vj_sub [1, 2, 0] rfl ?_
        exact hk12 x1 (w32 (x2 + 1)) hx1 (ir_w _) _ hF
      · rw [if_neg c5] at hF
        refine vj_iconst G (v := 0) d_C_readAny_35 rfl ?_
        cases hF
        exact vj_zret G0 (Or.inl rfl) d_C_readAny_36
set_option maxHeartbeats 4000000 in
set_option maxRecDepth 100000 in
theorem wl_C_readAny_12 {w : Wd} {X : Cx} {r : Int} {M9 : Mm} {d : Nat} (G0 : Gx LC w X "WhoRules$Charters" b_C_readAny 3 (12 + d + 1) (445 + 22 * (d + 1)) (some .boolean)) (n : Nat) (rec : Nat → Int → Mm → Rr) (hrec : HR_rd w d rec) : ∀ (f : Nat) (x1 x2 : Int) (hx1 : inR x1) (hx2 : inR x2) (M : Mm), lp_C_readAny_12 n rec f x1 x2 M = some (r, M9) → VJ LC w X 3 3 r M9 M [(0, .ref (wa w 2)), (1, .int (i32 x1)), (2, .int (i32 x2))] [] 12 := by
  intro f
  induction f with
  | zero => intro x1 x2 hx1 hx2 M hF; cases hF
  | succ f ih => intro x1 x2 hx1 hx2 M hF; exact wk_C_readAny_12 G0 n rec hrec (lp_C_readAny_12 n rec f) ih x1 x2 hx1 hx2 M hF
set_option maxHeartbeats 4000000 in
set_option maxRecDepth 100000 in
theorem cr_C_readAny {w : Wd} {d : Nat} (hij : ij LC w) (n : Nat) (rec : Nat → Int → Mm → Rr) (hrec : HR_rd w d rec) (x1 : Int) (hx1 : inR x1) {M : Mm} {r : Int} {M9 : Mm} (hF : f_C_readAny n rec x1 M = some (r, M9)) : Ct LC w y_C_readAny b_C_readAny 3 (some .boolean) (12 + d + 1) (445 + 22 * (d + 1)) 3 [.ref (wa w 2), .int (i32 x1)] M r M9 := by
  refine Ct.of hij KstC (by decide +kernel) (Nat.le_of_ble_eq_true rfl) (fun X G0 => ?_)
  have G := G0.1
  show VJ LC w X 3 3 r M9 M [(0, .ref (wa w 2)), (1, .int (i32 x1))] [] 0
  unfold f_C_readAny at hF
  refine vj_aload_n G (p9 := 0) d_C_readAny_0 rfl rfl ?_
  refine vj_iload_n G (p9 := 1) d_C_readAny_1 rfl rfl ?_
  obtain ⟨r1, M1, e1, hF⟩ := bnd_some hF
  refine vj_callV3 G (hrec_C_readEvery hrec x1 hx1 e1) lkC_2 clC_8 rfl q_734 cq_C_readEvery rfl (by omega) (by omega) (Nat.le_of_ble_eq_true rfl) d_C_readAny_2 rfl (fun hr1 => ?_)
  refine vj_if_ne G (tgt := 10) d_C_readAny_5 (by decide) (ir_b hr1) (fun c2 => ?_) (fun c2 => ?_)
  · rw [if_pos c2] at hF
    refine vj_iconst G (v := 0) d_C_readAny_10 rfl ?_
    refine vj_istore_n G (lv2 := [(2, .int (i32 0)), (0, .ref (wa w 2)), (1, .int (i32 x1))]) d_C_readAny_11 rfl (by decide) rfl ?_
    refine vj_sub [1, 2, 0] rfl ?_
    exact wl_C_readAny_12 G0 n rec hrec  n x1 0 hx1 ic_0 _ hF
  · rw [if_neg c2] at hF
    refine vj_iconst G (v := 0) d_C_readAny_8 rfl ?_
    cases hF
    exact vj_zret G0 (Or.inl rfl) d_C_readAny_9
theorem cg_rd {w : Wd} (hij : ij LC w) (n : Nat) : ∀ d : Nat, HR_rd w d (g_rd n d) := by
  intro d
  induction d with
  | zero => exact ⟨(fun _ _ _ _ _ e => by cases e), (fun _ _ _ _ _ e => by cases e), (fun _ _ _ _ _ e => by cases e), (fun _ _ _ _ _ e => by cases e)⟩
  | succ d ih => exact ⟨(fun x1 M r M1 hx1 e => cr_C_readAny hij n (g_rd n d) ih x1 hx1 e), (fun x1 M r M1 hx1 e => cr_C_readEvery hij n (g_rd n d) ih x1 hx1 e), (fun x1 M r M1 hx1 e => cr_C_readOne hij n (g_rd n d) ih x1 hx1 e), (fun x1 M r M1 hx1 e => cr_C_readNot hij n (g_rd n d) ih x1 hx1 e)⟩
theorem ct_C_readAny {w : Wd} (hij : ij LC w) (n d : Nat) (x1 : Int) (hx1 : inR x1) {M : Mm} {r : Int} {M1 : Mm} (e : g_rd n d 0 x1 M = some (r, M1)) : Ct LC w y_C_readAny b_C_readAny 3 (some .boolean) (12 + d) (445 + 22 * d) 3 [.ref (wa w 2), .int (i32 x1)] M r M1 := hrec_C_readAny (cg_rd hij n d) x1 hx1 e
theorem ct_C_readEvery {w : Wd} (hij : ij LC w) (n d : Nat) (x1 : Int) (hx1 : inR x1) {M : Mm} {r : Int} {M1 : Mm} (e : g_rd n d 1 x1 M = some (r, M1)) : Ct LC w y_C_readEvery b_C_readEvery 3 (some .boolean) (12 + d) (445 + 22 * d) 3 [.ref (wa w 2), .int (i32 x1)] M r M1 := hrec_C_readEvery (cg_rd hij n d) x1 hx1 e
theorem ct_C_readOne {w : Wd} (hij : ij LC w) (n d : Nat) (x1 : Int) (hx1 : inR x1) {M : Mm} {r : Int} {M1 : Mm} (e : g_rd n d 2 x1 M = some (r, M1)) : Ct LC w y_C_readOne b_C_readOne 2 (some .boolean) (12 + d) (445 + 22 * d) 3 [.ref (wa w 2), .int (i32 x1)] M r M1 := hrec_C_readOne (cg_rd hij n d) x1 hx1 e
theorem ct_C_readNot {w : Wd} (hij : ij LC w) (n d : Nat) (x1 : Int) (hx1 : inR x1) {M : Mm} {r : Int} {M1 : Mm} (e : g_rd n d 3 x1 M = some (r, M1)) : Ct LC w y_C_readNot b_C_readNot 2 (some .boolean) (12 + d) (445 + 22 * d) 3 [.ref (wa w 2), .int (i32 x1)] M r M1 := hrec_C_readNot (cg_rd hij n d) x1 hx1 e
set_option maxHeartbeats 4000000 in
set_option maxRecDepth 100000 in
theorem wk_C_readClause_90 {w : Wd} {X : Cx} {r : Int} {M9 : Mm} (G0 : Gx LC w X "WhoRules$Charters" b_C_readClause 4 53 1347 (some .boolean)) (n : Nat) (x1 : Int) (hx1 : inR x1) (M : Mm) (hF : f_C_readClause_90 n x1 M = some (r, M9)) : VJ LC w X 4 3 r M9 M [(0, .ref (wa w 2)), (1, .int (i32 x1))] [] 90 := by
  have G := G0.1
  unfold f_C_readClause_90 at hF
  refine vj_aload_n G (p9 := 0) d_C_readClause_90 rfl rfl ?_
  refine gfC_C_28 G d_C_readClause_91 ?_
  refine vj_iload_n G (p9 := 1) d_C_readClause_94 rfl rfl ?_
  obtain ⟨c1, hF⟩ := ck_some hF
  refine vj_iald G (x := x1) lkC_35 (by decide) c1 d_C_readClause_95 ?_
  refine vj_mr (fun hM2 => ?_)
  refine vj_if_lt G (tgt := 103) d_C_readClause_96 (by decide) (mr_a hM2 lkC_35) (fun c3 => ?_) (fun c3 => ?_)
  · rw [if_pos c3] at hF
    refine vj_iconst G (v := 0) d_C_readClause_103 rfl ?_
    cases hF
    exact vj_zret G0 (Or.inl rfl) d_C_readClause_104
  · rw [if_neg c3] at hF
    refine vj_iconst G (v := 1) d_C_readClause_99 rfl ?_
    refine vj_goto G (tgt := 104) d_C_readClause_100 (by decide) ?_
    cases hF
    exact vj_zret G0 (Or.inr rfl) d_C_readClause_104
set_option maxHeartbeats 4000000 in
set_option maxRecDepth 100000 in
theorem wk_C_readClause_131 {w : Wd} {X : Cx} {r : Int} {M9 : Mm} (G0 : Gx LC w X "WhoRules$Charters" b_C_readClause 4 53 1347 (some .boolean)) (n : Nat) (x1 s1 s3 : Int) (hx1 : inR x1) (hs1 : inR s1) (hs3 : inB s3) (M : Mm) (hF : f_C_readClause_131 n x1 s1 s3 M = some (r, M9)) : VJ LC w X 4 3 r M9 M [(0, .ref (wa w 2)), (1, .int (i32 x1))] [.int (i32 s3), .ref (wa w 2), .int (i32 s1), .ref (wa w 36)] 131 := by
  have G := G0.1
  unfold f_C_readClause_131 at hF
  obtain ⟨r1, M1, e1, hF⟩ := bnd_some hF
  refine vj_callV1 G (ct_C_readNumber (gx_ij G) n s3 (ir_b hs3) e1) lkC_2 clC_8 rfl q_760 cq_C_readNumber rfl (by decide) (by decide) (Nat.le_of_ble_eq_true rfl) d_C_readClause_131 rfl (fun hr1 => ?_)
  obtain ⟨c2, hF⟩ := ck_some hF
  refine vj_iast G (x := s1) lkC_36 (by decide) (by decide) (by decide) c2 hr1 d_C_readClause_134 ?_
  refine vj_aload_n G (p9 := 0) d_C_readClause_135 rfl rfl ?_
  refine gfC_C_31 G d_C_readClause_136 ?_
  refine vj_iload_n G (p9 := 1) d_C_readClause_139 rfl rfl ?_
  obtain ⟨c3, hF⟩ := ck_some hF
  refine vj_iald G (x := x1) lkC_36 (by decide) c3 d_C_readClause_140 ?_
  refine vj_mr (fun hM4 => ?_)
  refine vj_if_lt G (tgt := 148) d_C_readClause_141 (by decide) (mr_a hM4 lkC_36) (fun c5 => ?_) (fun c5 => ?_)
  · rw [if_pos c5] at hF
    refine vj_iconst G (v := 0) d_C_readClause_148 rfl ?_
    cases hF
    exact vj_zret G0 (Or.inl rfl) d_C_readClause_149
  · rw [if_neg c5] at hF
    refine vj_iconst G (v := 1) d_C_readClause_144 rfl ?_
    refine vj_goto G (tgt := 149) d_C_readClause_145 (by decide) ?_
    cases hF
    exact vj_zret G0 (Or.inr rfl) d_C_readClause_149
set_option maxHeartbeats 4000000 in
set_option maxRecDepth 100000 in
theorem ct_C_readClause {w : Wd} (hij : ij LC w) (n : Nat) (x1 : Int) (hx1 : inR x1) {M : Mm} {r : Int} {M9 : Mm} (hF : f_C_readClause n x1 M = some (r, M9)) : Ct LC w y_C_readClause b_C_readClause 4 (some .boolean) 53 1347 3 [.ref (wa w 2), .int (i32 x1)] M r M9 := by
  refine Ct.of hij KstC (by decide +kernel) (Nat.le_of_ble_eq_true rfl) (fun X G0 => ?_)
  have G := G0.1
  show VJ LC w X 4 3 r M9 M [(0, .ref (wa w 2)), (1, .int (i32 x1))] [] 0
  unfold f_C_readClause at hF
  refine vj_aload_n G (p9 := 0) d_C_readClause_0 rfl rfl ?_
  obtain ⟨r1, M1, e1, hF⟩ := bnd_some hF
  refine vj_callV1 G (ct_C_readWord (gx_ij G) n   e1) lkC_2 clC_8 rfl q_662 cq_C_readWord rfl (by decide) (by decide) (Nat.le_of_ble_eq_true rfl) d_C_readClause_1 rfl (fun hr1 => ?_)
  refine vj_istore_n G (lv2 := [(2, .int (i32 r1)), (0, .ref (wa w 2)), (1, .int (i32 x1))]) d_C_readClause_4 rfl (by decide) rfl ?_
  refine vj_iload_n G (p9 := 0) d_C_readClause_5 rfl rfl ?_
  refine vj_if_lt G (tgt := 18) d_C_readClause_6 (by decide) hr1 (fun c2 => ?_) (fun c2 => ?_)
  · rw [if_pos c2] at hF
    refine vj_iconst G (v := 0) d_C_readClause_18 rfl ?_
    cases hF
    exact vj_zret G0 (Or.inl rfl) d_C_readClause_19
  · rw [if_neg c2] at hF
    refine vj_aload_n G (p9 := 1) d_C_readClause_9 rfl rfl ?_
    refine vj_bipush G (v := 32) d_C_readClause_10 rfl ?_
    obtain ⟨r3, M3, e3, hF⟩ := bnd_some hF
    refine vj_callV3 G (ct_C_takes (gx_ij G) n 32 ic_32 e3) lkC_2 clC_8 rfl q_726 cq_C_takes rfl (by decide) (by decide) (Nat.le_of_ble_eq_true rfl) d_C_readClause_12 rfl (fun hr3 => ?_)
    refine vj_if_ne G (tgt := 20) d_C_readClause_15 (by decide) (ir_b hr3) (fun c4 => ?_) (fun c4 => ?_)
    · rw [if_pos c4] at hF
      refine vj_aload_n G (p9 := 1) d_C_readClause_20 rfl rfl ?_
      refine gfC_C_25 G d_C_readClause_21 ?_
      refine vj_iload_n G (p9 := 2) d_C_readClause_24 rfl rfl ?_
      refine vj_iload_n G (p9 := 0) d_C_readClause_25 rfl rfl ?_
      obtain ⟨c5, hF⟩ := ck_some hF
      refine vj_iast G (x := x1) lkC_34 (by decide) (by decide) (by decide) c5 hr1 d_C_readClause_26 ?_
      refine vj_iload_n G (p9 := 0) d_C_readClause_27 rfl rfl ?_
      refine vj_iconst G (v := 4) d_C_readClause_28 rfl ?_
      refine vj_icmp_ne G (tgt := 60) d_C_readClause_29 (by decide) hr1 ic_4 (fun c6 => ?_) (fun c6 => ?_)
      · rw [if_pos c6] at hF
        refine vj_aload_n G (p9 := 1) d_C_readClause_60 rfl rfl ?_
        refine gfC_C_28 G d_C_readClause_61 ?_
        refine vj_iload_n G (p9 := 2) d_C_readClause_64 rfl rfl ?_
        refine vj_aload_n G (p9 := 1) d_C_readClause_65 rfl rfl ?_
        refine vj_iconst G (v := 0) d_C_readClause_66 rfl ?_
        obtain ⟨r7, M7, e7, hF⟩ := bnd_some hF
        refine vj_callV1 G (ct_C_readNumber (gx_ij G) n 0 ic_0 e7) lkC_2 clC_8 rfl q_760 cq_C_readNumber rfl (by decide) (by decide) (Nat.le_of_ble_eq_true rfl) d_C_readClause_67 rfl (fun hr7 => ?_)
        obtain ⟨c8, hF⟩ := ck_some hF
        refine vj_iast G (x := x1) lkC_35 (by decide) (by decide) (by decide) c8 hr7 d_C_readClause_70 ?_
        refine vj_aload_n G (p9 := 1) d_C_readClause_71 rfl rfl ?_
        refine gfC_C_28 G d_C_readClause_72 ?_
        refine vj_iload_n G (p9 := 2) d_C_readClause_75 rfl rfl ?_
        obtain ⟨c9, hF⟩ := ck_some hF
        refine vj_iald G (x := x1) lkC_35 (by decide) c9 d_C_readClause_76 ?_
        refine vj_mr (fun hM10 => ?_)
        refine vj_if_lt G (tgt := 90) d_C_readClause_77 (by decide) (mr_a hM10 lkC_35) (fun c11 => ?_) (fun c11 => ?_)
        · rw [if_pos c11] at hF
          refine vj_sub [1, 2] rfl ?_
          exact wk_C_readClause_90 G0 n  x1 hx1 _ hF
        · rw [if_neg c11] at hF
          refine vj_iload_n G (p9 := 0) d_C_readClause_80 rfl rfl ?_
          refine vj_iconst G (v := 1) d_C_readClause_81 rfl ?_
          refine vj_icmp_eq G (tgt := 90) d_C_readClause_82 (by decide) hr1 ic_1 (fun c12 => ?_) (fun c12 => ?_)
          · rw [if_pos c12] at hF
            refine vj_sub [1, 2] rfl ?_
            exact wk_C_readClause_90 G0 n  x1 hx1 _ hF
          · rw [if_neg c12] at hF
            refine vj_iload_n G (p9 := 0) d_C_readClause_85 rfl rfl ?_
            refine vj_iconst G (v := 3) d_C_readClause_86 rfl ?_
            refine vj_icmp_ne G (tgt := 105) d_C_readClause_87 (by decide) hr1 ic_3 (fun c13 => ?_) (fun c13 => ?_)
            · rw [if_pos c13] at hF
              refine vj_aload_n G (p9 := 1) d_C_readClause_105 rfl rfl ?_
              refine vj_bipush G (v := 32) d_C_readClause_106 rfl ?_
              obtain ⟨r14, M14, e14, hF⟩ := bnd_some hF
              refine vj_callV3 G (ct_C_takes (gx_ij G) n 32 ic_32 e14) lkC_2 clC_8 rfl q_726 cq_C_takes rfl (by decide) (by decide) (Nat.le_of_ble_eq_true rfl) d_C_readClause_108 rfl (fun hr14 => ?_)
              refine vj_if_ne G (tgt := 116) d_C_readClause_111 (by decide) (ir_b hr14) (fun c15 => ?_) (fun c15 => ?_)
              · rw [if_pos c15] at hF
                refine vj_aload_n G (p9 := 1) d_C_readClause_116 rfl rfl ?_
                refine gfC_C_31 G d_C_readClause_117 ?_
                refine vj_iload_n G (p9 := 2) d_C_readClause_120 rfl rfl ?_
                refine vj_aload_n G (p9 := 1) d_C_readClause_121 rfl rfl ?_
                refine vj_iload_n G (p9 := 0) d_C_readClause_122 rfl rfl ?_
                refine vj_if_ne G (tgt := 130) d_C_readClause_123 (by decide) hr1 (fun c16 => ?_) (fun c16 => ?_)
                · rw [if_pos c16] at hF
                  refine vj_iconst G (v := 0) d_C_readClause_130 rfl ?_
                  refine vj_sub [1, 2] rfl ?_
                  exact wk_C_readClause_131 G0 n  x1 x1 0 hx1 hx1 (Or.inl rfl) _ hF
                · rw [if_neg c16] at hF
                  refine vj_iconst G (v := 1) d_C_readClause_126 rfl ?_
                  refine vj_goto G (tgt := 131) d_C_readClause_127 (by decide) ?_
                  refine vj_sub [1, 2] rfl ?_
                  exact wk_C_readClause_131 G0 n  x1 x1 1 hx1 hx1 (Or.inr rfl) _ hF
              · rw [if_neg c15] at hF
                refine vj_iconst G (v := 0) d_C_readClause_114 rfl ?_
                cases hF
                exact vj_zret G0 (Or.inl rfl) d_C_readClause_115
            · rw [if_neg c13] at hF
              refine vj_sub [1, 2] rfl ?_
              exact wk_C_readClause_90 G0 n  x1 hx1 _ hF
      · rw [if_neg c6] at hF
        refine vj_aload_n G (p9 := 1) d_C_readClause_32 rfl rfl ?_
        refine gfC_C_28 G d_C_readClause_33 ?_
        refine vj_iload_n G (p9 := 2) d_C_readClause_36 rfl rfl ?_
        refine vj_aload_n G (p9 := 1) d_C_readClause_37 rfl rfl ?_
        refine gfC_C_47 G d_C_readClause_38 ?_
        refine vj_mr (fun hM17 => ?_)
        obtain ⟨c18, hF⟩ := ck_some hF
        refine vj_iast G (x := x1) lkC_35 (by decide) (by decide) (by decide) c18 (mr_o hM17 lkC_2 flC_8_11) d_C_readClause_41 ?_
        refine vj_aload_n G (p9 := 1) d_C_readClause_42 rfl rfl ?_
        refine vj_iconst G (v := 0) d_C_readClause_43 rfl ?_
        obtain ⟨r19, M19, e19, hF⟩ := bnd_some hF
        refine vj_callV3 G (ct_C_readAny (gx_ij G) n 40 0 ic_0 e19) lkC_2 clC_8 rfl q_730 cq_C_readAny rfl (by decide) (by decide) (Nat.le_of_ble_eq_true rfl) d_C_readClause_44 rfl (fun hr19 => ?_)
        refine vj_istore_n G (lv2 := [(3, .int (i32 r19)), (2, .int (i32 r1)), (0, .ref (wa w 2)), (1, .int (i32 x1))]) d_C_readClause_47 rfl (by decide) rfl ?_
        refine vj_aload_n G (p9 := 2) d_C_readClause_48 rfl rfl ?_
        refine gfC_C_31 G d_C_readClause_49 ?_
        refine vj_iload_n G (p9 := 3) d_C_readClause_52 rfl rfl ?_
        refine vj_aload_n G (p9 := 2) d_C_readClause_53 rfl rfl ?_
        refine gfC_C_47 G d_C_readClause_54 ?_
        refine vj_mr (fun hM20 => ?_)
        obtain ⟨c21, hF⟩ := ck_some hF
        refine vj_iast G (x := x1) lkC_36 (by decide) (by decide) (by decide) c21 (mr_o hM20 lkC_2 flC_8_11) d_C_readClause_57 ?_
        refine vj_iload_n G (p9 := 0) d_C_readClause_58 rfl rfl ?_
        cases hF
        exact vj_zret G0 hr19 d_C_readClause_59
    · rw [if_neg c4] at hF
      refine vj_iconst G (v := 0) d_C_readClause_18 rfl ?_
      cases hF
      exact vj_zret G0 (Or.inl rfl) d_C_readClause_19
set_option maxHeartbeats 4000000 in
set_option maxRecDepth 100000 in
theorem wk_C_parse_108 {w : Wd} {X : Cx} {r : Int} {M9 : Mm} (G0 : Gx LC w X "WhoRules$Charters" b_C_parse 3 54 1370 (some .int)) (n : Nat) (M : Mm) (hF : f_C_parse_108 n  M = some (r, M9)) : VJ LC w X 3 1 r M9 M [(0, .ref (wa w 2))] [] 108 := by
  have G := G0.1
  unfold f_C_parse_108 at hF
  refine vj_aload_n G (p9 := 0) d_C_parse_108 rfl rfl ?_
  refine vj_iconst G (v := 0) d_C_parse_109 rfl ?_
  refine pfC_C_37 G ic_0 d_C_parse_110 ?_
  refine vj_aload_n G (p9 := 0) d_C_parse_113 rfl rfl ?_
  refine gfC_C_41 G d_C_parse_114 ?_
  refine vj_mr (fun hM1 => ?_)
  cases hF
  exact vj_iret G0 (mr_o hM1 lkC_2 flC_8_3) d_C_parse_117
set_option maxHeartbeats 4000000 in
set_option maxRecDepth 100000 in
theorem wk_C_parse_101 {w : Wd} {X : Cx} {r : Int} {M9 : Mm} (G0 : Gx LC w X "WhoRules$Charters" b_C_parse 3 54 1370 (some .int)) (n : Nat) (k20 : Int → Int → Mm → Rr) (hk20 : ∀ (x1 x2 : Int) (hx1 : inB x1) (hx2 : inR x2) (M : Mm), k20 x1 x2 M = some (r, M9) → VJ LC w X 3 1 r M9 M [(0, .ref (wa w 2)), (1, .int (i32 x1)), (2, .int (i32 x2))] [] 20) (x2 s0 : Int) (hx2 : inR x2) (hs0 : inB s0) (M : Mm) (hF : f_C_parse_101 n k20 x2 s0 M = some (r, M9)) : VJ LC w X 3 1 r M9 M [(0, .ref (wa w 2)), (2, .int (i32 x2))] [.int (i32 s0)] 101 := by
  have G := G0.1
  unfold f_C_parse_101 at hF
  refine vj_istore_n G (lv2 := [(1, .int (i32 s0)), (0, .ref (wa w 2)), (2, .int (i32 x2))]) d_C_parse_101 rfl (by decide) rfl ?_
  refine vj_iinc G (p9 := 2) (n := 1) (lv2 := [(2, .int (i32 (w32 (x2 + 1)))), (1, .int (i32 s0)), (0, .ref (wa w 2))]) d_C_parse_102 rfl (by decide) rfl ?_
  refine vj_goto G (tgt := 20) d_C_parse_105 (by decide) ?_
  refine vj_sub [2, 1, 0] rfl ?_
  exact hk20 s0 (w32 (x2 + 1)) hs0 (ir_w _) _ hF
set_option maxHeartbeats 4000000 in
set_option maxRecDepth 100000 in
theorem wk_C_parse_100 {w : Wd} {X : Cx} {r : Int} {M9 : Mm} (G0 : Gx LC w X "WhoRules$Charters" b_C_parse 3 54 1370 (some .int)) (n : Nat) (k20 : Int → Int → Mm → Rr) (hk20 : ∀ (x1 x2 : Int) (hx1 : inB x1) (hx2 : inR x2) (M : Mm), k20 x1 x2 M = some (r, M9) → VJ LC w X 3 1 r M9 M [(0, .ref (wa w 2)), (1, .int (i32 x1)), (2, .int (i32 x2))] [] 20) (x2 : Int) (hx2 : inR x2) (M : Mm) (hF : f_C_parse_100 n k20 x2 M = some (r, M9)) : VJ LC w X 3 1 r M9 M [(0, .ref (wa w 2)), (2, .int (i32 x2))] [] 100 := by
  have G := G0.1
  unfold f_C_parse_100 at hF
  refine vj_iconst G (v := 0) d_C_parse_100 rfl ?_
  exact wk_C_parse_101 G0 n k20 hk20 x2 0 hx2 (Or.inl rfl) _ hF
set_option maxHeartbeats 4000000 in
set_option maxRecDepth 100000 in
theorem wk_C_parse_78 {w : Wd} {X : Cx} {r : Int} {M9 : Mm} (G0 : Gx LC w X "WhoRules$Charters" b_C_parse 3 54 1370 (some .int)) (n : Nat) (k20 : Int → Int → Mm → Rr) (hk20 : ∀ (x1 x2 : Int) (hx1 : inB x1) (hx2 : inR x2) (M : Mm), k20 x1 x2 M = some (r, M9) → VJ LC w X 3 1 r M9 M [(0, .ref (wa w 2)), (1, .int (i32 x1)), (2, .int (i32 x2))] [] 20) (x1 x2 : Int) (hx1 : inB x1) (hx2 : inR x2) (M : Mm) (hF : f_C_parse_78 n k20 x1 x2 M = some (r, M9)) : VJ LC w X 3 1 r M9 M [(0, .ref (wa w 2)), (1, .int (i32 x1)), (2, .int (i32 x2))] [] 78 := by
  have G := G0.1
  unfold f_C_parse_78 at hF
  refine vj_iload_n G (p9 := 1) d_C_parse_78 rfl rfl ?_
  refine vj_if_eq G (tgt := 100) d_C_parse_79 (by decide) (ir_b hx1) (fun c1 => ?_) (fun c1 => ?_)
  · rw [if_pos c1] at hF
    refine vj_sub [0, 2] rfl ?_
    exact wk_C_parse_100 G0 n k20 hk20 x2 hx2 _ hF
  · rw [if_neg c1] at hF
    refine vj_iload_n G (p9 := 2) d_C_parse_82 rfl rfl ?_
    refine vj_iconst G (v := 5) d_C_parse_83 rfl ?_
    refine vj_icmp_ge G (tgt := 100) d_C_parse_84 (by decide) hx2 ic_5 (fun c2 => ?_) (fun c2 => ?_)
    · rw [if_pos c2] at hF
      refine vj_sub [0, 2] rfl ?_
      exact wk_C_parse_100 G0 n k20 hk20 x2 hx2 _ hF
    · rw [if_neg c2] at hF
      refine vj_aload_n G (p9 := 0) d_C_parse_87 rfl rfl ?_
      refine vj_bipush G (v := 59) d_C_parse_88 rfl ?_
      obtain ⟨r3, M3, e3, hF⟩ := bnd_some hF
      refine vj_callV3 G (ct_C_takes (gx_ij G) n 59 ic_59 e3) lkC_2 clC_8 rfl q_726 cq_C_takes rfl (by decide) (by decide) (Nat.le_of_ble_eq_true rfl) d_C_parse_90 rfl (fun hr3 => ?_)
      refine vj_if_eq G (tgt := 100) d_C_parse_93 (by decide) (ir_b hr3) (fun c4 => ?_) (fun c4 => ?_)
      · rw [if_pos c4] at hF
        refine vj_sub [0, 2] rfl ?_
        exact wk_C_parse_100 G0 n k20 hk20 x2 hx2 _ hF
      · rw [if_neg c4] at hF
        refine vj_iconst G (v := 1) d_C_parse_96 rfl ?_
        refine vj_goto G (tgt := 101) d_C_parse_97 (by decide) ?_
        refine vj_sub [0, 2] rfl ?_
        exact wk_C_parse_101 G0 n k20 hk20 x2 1 hx2 (Or.inr rfl) _ hF
set_option maxHeartbeats 4000000 in
set_option maxRecDepth 100000 in
theorem wk_C_parse_20 {w : Wd} {X : Cx} {r : Int} {M9 : Mm} (G0 : Gx LC w X "WhoRules$Charters" b_C_parse 3 54 1370 (some .int)) (n : Nat) (k20 : Int → Int → Mm → Rr) (hk20 : ∀ (x1 x2 : Int) (hx1 : inB x1) (hx2 : inR x2) (M : Mm), k20 x1 x2 M = some (r, M9) → VJ LC w X 3 1 r M9 M [(0, .ref (wa w 2)), (1, .int (i32 x1)), (2, .int (i32 x2))] [] 20) (x1 x2 : Int) (hx1 : inB x1) (hx2 : inR x2) (M : Mm) (hF : f_C_parse_20 n k20 x1 x2 M = some (r, M9)) : VJ LC w X 3 1 r M9 M [(0, .ref (wa w 2)), (1, .int (i32 x1)), (2, .int (i32 x2))] [] 20 := by
  have G := G0.1
  unfold f_C_parse_20 at hF
  refine vj_iload_n G (p9 := 2) d_C_parse_20 rfl rfl ?_
  refine vj_bipush G (v := 6) d_C_parse_21 rfl ?_
  refine vj_icmp_ge G (tgt := 108) d_C_parse_23 (by decide) hx2 ic_6 (fun c1 => ?_) (fun c1 => ?_)
  · rw [if_pos c1] at hF
    refine vj_sub [0] rfl ?_
    exact wk_C_parse_108 G0 n    _ hF
  · rw [if_neg c1] at hF
    refine vj_iload_n G (p9 := 1) d_C_parse_26 rfl rfl ?_
    refine vj_if_eq G (tgt := 108) d_C_parse_27 (by decide) (ir_b hx1) (fun c2 => ?_) (fun c2 => ?_)
    · rw [if_pos c2] at hF
      refine vj_sub [0] rfl ?_
      exact wk_C_parse_108 G0 n    _ hF
    · rw [if_neg c2] at hF
      refine vj_aload_n G (p9 := 0) d_C_parse_30 rfl rfl ?_
      refine vj_aload_n G (p9 := 0) d_C_parse_31 rfl rfl ?_
      refine gfC_C_44 G d_C_parse_32 ?_
      refine vj_mr (fun hM3 => ?_)
      refine vj_bipush G (v := 6) d_C_parse_35 rfl ?_
      refine vj_imul G d_C_parse_37 ?_
      refine vj_iload_n G (p9 := 2) d_C_parse_38 rfl rfl ?_
      refine vj_iadd G d_C_parse_39 ?_
      obtain ⟨r4, M4, e4, hF⟩ := bnd_some hF
      refine vj_callV3 G (ct_C_readClause (gx_ij G) n (w32 ((w32 ((M 2 0) * 6)) + x2)) (ir_w _) e4) lkC_2 clC_8 rfl q_658 cq_C_readClause rfl (by decide) (by decide) (Nat.le_of_ble_eq_true rfl) d_C_parse_40 rfl (fun hr4 => ?_)
      refine vj_istore_n G (lv2 := [(1, .int (i32 r4)), (0, .ref (wa w 2)), (2, .int (i32 x2))]) d_C_parse_43 rfl (by decide) rfl ?_
      refine vj_iload_n G (p9 := 0) d_C_parse_44 rfl rfl ?_
      refine vj_if_eq G (tgt := 78) d_C_parse_45 (by decide) (ir_b hr4) (fun c5 => ?_) (fun c5 => ?_)
      · rw [if_pos c5] at hF
        refine vj_sub [1, 0, 2] rfl ?_
        exact wk_C_parse_78 G0 n k20 hk20 r4 x2 hr4 hx2 _ hF
      · rw [if_neg c5] at hF
        refine vj_aload_n G (p9 := 1) d_C_parse_48 rfl rfl ?_
        refine gfC_C_41 G d_C_parse_49 ?_
        refine vj_mr (fun hM6 => ?_)
        refine vj_aload_n G (p9 := 1) d_C_parse_52 rfl rfl ?_
        refine gfC_C_37 G d_C_parse_53 ?_
        refine vj_icmp_lt G (tgt := 78) d_C_parse_56 (by decide) (mr_o hM6 lkC_2 flC_8_3) (mr_o hM6 lkC_2 flC_8_1) (fun c7 => ?_) (fun c7 => ?_)
        · rw [if_pos c7] at hF
          refine vj_sub [1, 0, 2] rfl ?_
          exact wk_C_parse_78 G0 n k20 hk20 r4 x2 hr4 hx2 _ hF
        · rw [if_neg c7] at hF
          refine vj_aload_n G (p9 := 1) d_C_parse_59 rfl rfl ?_
          refine gfC_C_22 G d_C_parse_60 ?_
          refine vj_aload_n G (p9 := 1) d_C_parse_63 rfl rfl ?_
          refine gfC_C_44 G d_C_parse_64 ?_
          refine vj_mr (fun hM8 => ?_)
          refine vj_iload_n G (p9 := 2) d_C_parse_67 rfl rfl ?_
          refine vj_iconst G (v := 1) d_C_parse_68 rfl ?_
          refine vj_iadd G d_C_parse_69 ?_
          obtain ⟨c9, hF⟩ := ck_some hF
          refine vj_iast G (x := (M4 2 0)) lkC_33 (by decide) (by decide) (by decide) c9 (ir_w _) d_C_parse_70 ?_
          refine vj_aload_n G (p9 := 1) d_C_parse_71 rfl rfl ?_
          refine vj_iconst G (v := 0) d_C_parse_72 rfl ?_
          refine pfC_C_37 G ic_0 d_C_parse_73 ?_
          refine vj_iconst G (v := (-1)) d_C_parse_76 rfl ?_
          cases hF
          exact vj_iret G0 ic_m1 d_C_parse_77
set_option maxHeartbeats 4000000 in
set_option maxRecDepth 100000 in
theorem wl_C_parse_20 {w : Wd} {X : Cx} {r : Int} {M9 : Mm} (G0 : Gx LC w X "WhoRules$Charters" b_C_parse 3 54 1370 (some .int)) (n : Nat) : ∀ (f : Nat) (x1 x2 : Int) (hx1 : inB x1) (hx2 : inR x2) (M : Mm), lp_C_parse_20 n f x1 x2 M = some (r, M9) → VJ LC w X 3 1 r M9 M [(0, .ref (wa w 2)), (1, .int (i32 x1)), (2, .int (i32 x2))] [] 20 := by
  intro f
  induction f with
  | zero => intro x1 x2 hx1 hx2 M hF; cases hF
  | succ f ih => intro x1 x2 hx1 hx2 M hF; exact wk_C_parse_20 G0 n (lp_C_parse_20 n f) ih x1 x2 hx1 hx2 M hF
set_option maxHeartbeats 4000000 in
set_option maxRecDepth 100000 in
theorem ct_C_parse {w : Wd} (hij : ij LC w) (n : Nat) {M : Mm} {r : Int} {M9 : Mm} (hF : f_C_parse n  M = some (r, M9)) : Ct LC w y_C_parse b_C_parse 3 (some .int) 54 1370 1 [.ref (wa w 2)] M r M9 := by
  refine Ct.of hij KstC (by decide +kernel) (Nat.le_of_ble_eq_true rfl) (fun X G0 => ?_)
  have G := G0.1
  show VJ LC w X 3 1 r M9 M [(0, .ref (wa w 2))] [] 0
  unfold f_C_parse at hF
  refine vj_aload_n G (p9 := 0) d_C_parse_0 rfl rfl ?_
  refine vj_iconst G (v := 0) d_C_parse_1 rfl ?_
  refine pfC_C_41 G ic_0 d_C_parse_2 ?_
  refine vj_aload_n G (p9 := 0) d_C_parse_5 rfl rfl ?_
  refine vj_aload_n G (p9 := 0) d_C_parse_6 rfl rfl ?_
  refine gfC_C_44 G d_C_parse_7 ?_
  refine vj_mr (fun hM1 => ?_)
  refine vj_bipush G (v := 100) d_C_parse_10 rfl ?_
  refine vj_imul G d_C_parse_12 ?_
  refine pfC_C_47 G (ir_w _) d_C_parse_13 ?_
  refine vj_iconst G (v := 1) d_C_parse_16 rfl ?_
  refine vj_istore_n G (lv2 := [(1, .int (i32 1)), (0, .ref (wa w 2))]) d_C_parse_17 rfl (by decide) rfl ?_
  refine vj_iconst G (v := 0) d_C_parse_18 rfl ?_
  refine vj_istore_n G (lv2 := [(2, .int (i32 0)), (1, .int (i32 1)), (0, .ref (wa w 2))]) d_C_parse_19 rfl (by decide) rfl ?_
  refine vj_sub [2, 1, 0] rfl ?_
  exact wl_C_parse_20 G0 n  n 1 0 (Or.inr rfl) ic_0 _ hF
set_option maxHeartbeats 4000000 in
set_option maxRecDepth 100000 in
theorem ct_C_enact {w : Wd} (hij : ij LC w) (n : Nat) (x1 x2 : Int) (hx1 : inR x1) (hx2 : inR x2) {M : Mm} {r : Int} {M9 : Mm} (hF : f_C_enact n x1 x2 M = some (r, M9)) : Ct LC w y_C_enact b_C_enact 3 (some .int) 0 0 1 [.ref (wa w 2), .int (i32 x1), .int (i32 x2)] M r M9 := by
  refine Ct.of hij KstC (by decide +kernel) (Nat.le_of_ble_eq_true rfl) (fun X G0 => ?_)
  have G := G0.1
  show VJ LC w X 3 1 r M9 M [(0, .ref (wa w 2)), (1, .int (i32 x1)), (2, .int (i32 x2))] [] 0
  unfold f_C_enact at hF
  refine vj_aload_n G (p9 := 0) d_C_enact_0 rfl rfl ?_
  refine gfC_C_15 G d_C_enact_1 ?_
  refine vj_aload_n G (p9 := 0) d_C_enact_4 rfl rfl ?_
  refine gfC_C_44 G d_C_enact_5 ?_
  refine vj_mr (fun hM1 => ?_)
  refine vj_iload_n G (p9 := 1) d_C_enact_8 rfl rfl ?_
  obtain ⟨c2, hF⟩ := ck_some hF
  refine vj_iast G (x := (M 2 0)) lkC_31 (by decide) (by decide) (by decide) c2 hx1 d_C_enact_9 ?_
  refine vj_aload_n G (p9 := 0) d_C_enact_10 rfl rfl ?_
  refine gfC_C_19 G d_C_enact_11 ?_
  refine vj_aload_n G (p9 := 0) d_C_enact_14 rfl rfl ?_
  refine gfC_C_44 G d_C_enact_15 ?_
  refine vj_mr (fun hM3 => ?_)
  refine vj_iload_n G (p9 := 2) d_C_enact_18 rfl rfl ?_
  obtain ⟨c4, hF⟩ := ck_some hF
  refine vj_iast G (x := ((mset M 31 (M 2 0).toNat x1) 2 0)) lkC_32 (by decide) (by decide) (by decide) c4 hx2 d_C_enact_19 ?_
  refine vj_aload_n G (p9 := 0) d_C_enact_20 rfl rfl ?_
  refine vj_dup G d_C_enact_21 rfl ?_
  refine gfC_C_44 G d_C_enact_22 ?_
  refine vj_mr (fun hM5 => ?_)
  refine vj_iconst G (v := 1) d_C_enact_25 rfl ?_
  refine vj_iadd G d_C_enact_26 ?_
  refine pfC_C_44 G (ir_w _) d_C_enact_27 ?_
  refine vj_aload_n G (p9 := 0) d_C_enact_30 rfl rfl ?_
  refine gfC_C_44 G d_C_enact_31 ?_
  refine vj_mr (fun hM6 => ?_)
  refine vj_iconst G (v := 1) d_C_enact_34 rfl ?_
  refine vj_isub G d_C_enact_35 ?_
  cases hF
  exact vj_iret G0 (ir_w _) d_C_enact_36
set_option maxHeartbeats 4000000 in
set_option maxRecDepth 100000 in
theorem ct_W_charter {w : Wd} (hij : ij LC w) (n : Nat) (x1 x2 : Int) (hx1 : inR x1) (hx2 : inR x2) {M : Mm} {r : Int} {M9 : Mm} (hF : f_W_charter n x1 x2 M = some (r, M9)) : Ct LC w y_W_charter b_W_charter 4 (some .int) 55 1392 1 [.ref (wa w 0), .int (i32 x1), .int (i32 x2)] M r M9 := by
  refine Ct.of hij KstC (by decide +kernel) (Nat.le_of_ble_eq_true rfl) (fun X G0 => ?_)
  have G := G0.1
  show VJ LC w X 4 1 r M9 M [(0, .ref (wa w 0)), (1, .int (i32 x1)), (2, .int (i32 x2))] [] 0
  unfold f_W_charter at hF
  refine vj_aload_n G (p9 := 0) d_W_charter_0 rfl rfl ?_
  refine gfC_W_18 G d_W_charter_1 ?_
  refine vj_iload_n G (p9 := 1) d_W_charter_4 rfl rfl ?_
  obtain ⟨r1, M1, e1, hF⟩ := bnd_some hF
  refine vj_callV3 G (ct_R_isFirm (gx_ij G) n x1 hx1 e1) lkC_1 clC_7 rfl q_592 cq_R_isFirm rfl (by decide) (by decide) (Nat.le_of_ble_eq_true rfl) d_W_charter_5 rfl (fun hr1 => ?_)
  refine vj_if_ne G (tgt := 13) d_W_charter_8 (by decide) (ir_b hr1) (fun c2 => ?_) (fun c2 => ?_)
  · rw [if_pos c2] at hF
    refine vj_iload_n G (p9 := 2) d_W_charter_13 rfl rfl ?_
    obtain ⟨r3, M3, e3, hF⟩ := bnd_some hF
    refine vj_callS3 G (ct_W_isDay (gx_ij G) n x2 hx2 e3) q_639 cq_W_isDay rfl (by decide) (by decide) (Nat.le_of_ble_eq_true rfl) d_W_charter_14 rfl (fun hr3 => ?_)
    refine vj_if_ne G (tgt := 23) d_W_charter_17 (by decide) (ir_b hr3) (fun c4 => ?_) (fun c4 => ?_)
    · rw [if_pos c4] at hF
      refine vj_aload_n G (p9 := 0) d_W_charter_23 rfl rfl ?_
      refine gfC_W_25 G d_W_charter_24 ?_
      refine gfC_W_145 G d_W_charter_27 ?_
      refine vj_mr (fun hM5 => ?_)
      refine vj_bipush G (v := 20) d_W_charter_30 rfl ?_
      refine vj_icmp_lt G (tgt := 38) d_W_charter_32 (by decide) (mr_o hM5 lkC_2 flC_8_0) ic_20 (fun c6 => ?_) (fun c6 => ?_)
      · rw [if_pos c6] at hF
        refine vj_aload_n G (p9 := 0) d_W_charter_38 rfl rfl ?_
        refine gfC_W_25 G d_W_charter_39 ?_
        obtain ⟨r7, M7, e7, hF⟩ := bnd_some hF
        refine vj_callV1 G (ct_C_parse (gx_ij G) n   e7) lkC_2 clC_8 rfl q_654 cq_C_parse rfl (by decide) (by decide) (Nat.le_of_ble_eq_true rfl) d_W_charter_42 rfl (fun hr7 => ?_)
        refine vj_istore_n G (lv2 := [(3, .int (i32 r7)), (0, .ref (wa w 0)), (1, .int (i32 x1)), (2, .int (i32 x2))]) d_W_charter_45 rfl (by decide) rfl ?_
        refine vj_iload_n G (p9 := 0) d_W_charter_46 rfl rfl ?_
        refine vj_if_lt G (tgt := 57) d_W_charter_47 (by decide) hr7 (fun c8 => ?_) (fun c8 => ?_)
        · rw [if_pos c8] at hF
          refine vj_aload_n G (p9 := 1) d_W_charter_57 rfl rfl ?_
          refine gfC_W_25 G d_W_charter_58 ?_
          refine vj_iload_n G (p9 := 2) d_W_charter_61 rfl rfl ?_
          refine vj_iload_n G (p9 := 3) d_W_charter_62 rfl rfl ?_
          obtain ⟨r9, M9, e9, hF⟩ := bnd_some hF
          refine vj_callV1 G (ct_C_enact (gx_ij G) n x1 x2 hx1 hx2 e9) lkC_2 clC_8 rfl q_764 cq_C_enact rfl (by decide) (by decide) (Nat.le_of_ble_eq_true rfl) d_W_charter_63 rfl (fun hr9 => ?_)
          cases hF
          exact vj_iret G0 hr9 d_W_charter_66
        · rw [if_neg c8] at hF
          refine vj_bipush G (v := (-10)) d_W_charter_50 rfl ?_
          refine vj_iload_n G (p9 := 0) d_W_charter_52 rfl rfl ?_
          refine vj_isub G d_W_charter_53 ?_
          refine vj_goto G (tgt := 66) d_W_charter_54 (by decide) ?_
          cases hF
          exact vj_iret G0 (ir_w _) d_W_charter_66
      · rw [if_neg c6] at hF
        refine vj_bipush G (v := (-4)) d_W_charter_35 rfl ?_
        cases hF
        exact vj_iret G0 ic_m4 d_W_charter_37
    · rw [if_neg c4] at hF
      refine vj_bipush G (v := (-2)) d_W_charter_20 rfl ?_
      cases hF
      exact vj_iret G0 ic_m2 d_W_charter_22
  · rw [if_neg c2] at hF
    refine vj_iconst G (v := (-1)) d_W_charter_11 rfl ?_
    cases hF
    exact vj_iret G0 ic_m1 d_W_charter_12
set_option maxHeartbeats 4000000 in
set_option maxRecDepth 100000 in
theorem wk_W_isWord_13 {w : Wd} {X : Cx} {r : Int} {M9 : Mm} (G0 : Gx LC w X "WhoRules" b_W_isWord 1 0 0 (some .boolean)) (n : Nat) (M : Mm) (hF : f_W_isWord_13 n  M = some (r, M9)) : VJ LC w X 1 3 r M9 M [] [] 13 := by
  have G := G0.1
  unfold f_W_isWord_13 at hF
  refine vj_iconst G (v := 0) d_W_isWord_13 rfl ?_
  cases hF
  exact vj_zret G0 (Or.inl rfl) d_W_isWord_14
set_option maxHeartbeats 4000000 in
set_option maxRecDepth 100000 in
theorem ct_W_isWord {w : Wd} (hij : ij LC w) (n : Nat) (x0 : Int) (hx0 : inR x0) {M : Mm} {r : Int} {M9 : Mm} (hF : f_W_isWord n x0 M = some (r, M9)) : Ct LC w y_W_isWord b_W_isWord 1 (some .boolean) 0 0 3 [.int (i32 x0)] M r M9 := by
  refine Ct.of hij KstC (by decide +kernel) (Nat.le_of_ble_eq_true rfl) (fun X G0 => ?_)
  have G := G0.1
  show VJ LC w X 1 3 r M9 M [(0, .int (i32 x0))] [] 0
  unfold f_W_isWord at hF
  refine vj_iload_n G (p9 := 0) d_W_isWord_0 rfl rfl ?_
  refine vj_if_lt G (tgt := 13) d_W_isWord_1 (by decide) hx0 (fun c1 => ?_) (fun c1 => ?_)
  · rw [if_pos c1] at hF
    refine vj_sub [] rfl ?_
    exact wk_W_isWord_13 G0 n    _ hF
  · rw [if_neg c1] at hF
    refine vj_iload_n G (p9 := 0) d_W_isWord_4 rfl rfl ?_
    refine vj_iconst G (v := 5) d_W_isWord_5 rfl ?_
    refine vj_icmp_ge G (tgt := 13) d_W_isWord_6 (by decide) hx0 ic_5 (fun c2 => ?_) (fun c2 => ?_)
    · rw [if_pos c2] at hF
      refine vj_sub [] rfl ?_
      exact wk_W_isWord_13 G0 n    _ hF
    · rw [if_neg c2] at hF
      refine vj_iconst G (v := 1) d_W_isWord_9 rfl ?_
      refine vj_goto G (tgt := 14) d_W_isWord_10 (by decide) ?_
      cases hF
      exact vj_zret G0 (Or.inr rfl) d_W_isWord_14
set_option maxHeartbeats 4000000 in
set_option maxRecDepth 100000 in
theorem wk_C_lastOf_9 {w : Wd} {X : Cx} {r : Int} {M9 : Mm} (G0 : Gx LC w X "WhoRules$Charters" b_C_lastOf 4 0 0 (some .int)) (n : Nat) (k9 : Int → Int → Int → Mm → Rr) (hk9 : ∀ (x1 x2 x3 : Int) (hx1 : inR x1) (hx2 : inR x2) (hx3 : inR x3) (M : Mm), k9 x1 x2 x3 M = some (r, M9) → VJ LC w X 4 1 r M9 M [(0, .ref (wa w 2)), (1, .int (i32 x1)), (2, .int (i32 x2)), (3, .int (i32 x3))] [] 9) (x1 x2 x3 : Int) (hx1 : inR x1) (hx2 : inR x2) (hx3 : inR x3) (M : Mm) (hF : f_C_lastOf_9 n k9 x1 x2 x3 M = some (r, M9)) : VJ LC w X 4 1 r M9 M [(0, .ref (wa w 2)), (1, .int (i32 x1)), (2, .int (i32 x2)), (3, .int (i32 x3))] [] 9 := by
  have G := G0.1
  unfold f_C_lastOf_9 at hF
  refine vj_iload_n G (p9 := 3) d_C_lastOf_9 rfl rfl ?_
  refine vj_if_lt G (tgt := 41) d_C_lastOf_10 (by decide) hx3 (fun c1 => ?_) (fun c1 => ?_)
  · rw [if_pos c1] at hF
    refine vj_iconst G (v := (-1)) d_C_lastOf_41 rfl ?_
    cases hF
    exact vj_iret G0 ic_m1 d_C_lastOf_42
  · rw [if_neg c1] at hF
    refine vj_aload_n G (p9 := 0) d_C_lastOf_13 rfl rfl ?_
    refine gfC_C_25 G d_C_lastOf_14 ?_
    refine vj_iload_n G (p9 := 1) d_C_lastOf_17 rfl rfl ?_
    refine vj_bipush G (v := 6) d_C_lastOf_18 rfl ?_
    refine vj_imul G d_C_lastOf_20 ?_
    refine vj_iload_n G (p9 := 3) d_C_lastOf_21 rfl rfl ?_
    refine vj_iadd G d_C_lastOf_22 ?_
    obtain ⟨c2, hF⟩ := ck_some hF
    refine vj_iald G (x := w32 ((w32 (x1 * 6)) + x3)) lkC_34 (by decide) c2 d_C_lastOf_23 ?_
    refine vj_mr (fun hM3 => ?_)
    refine vj_iload_n G (p9 := 2) d_C_lastOf_24 rfl rfl ?_
    refine vj_icmp_ne G (tgt := 35) d_C_lastOf_25 (by decide) (mr_a hM3 lkC_34) hx2 (fun c4 => ?_) (fun c4 => ?_)
    · rw [if_pos c4] at hF
      refine vj_iinc G (p9 := 3) (n := (-1)) (lv2 := [(3, .int (i32 (w32 (x3 + (-1))))), (0, .ref (wa w 2)), (1, .int (i32 x1)), (2, .int (i32 x2))]) d_C_lastOf_35 rfl (by decide) rfl ?_
      refine vj_goto G (tgt := 9) d_C_lastOf_38 (by decide) ?_
      refine vj_sub [1, 2, 3, 0] rfl ?_
      exact hk9 x1 x2 (w32 (x3 + (-1))) hx1 hx2 (ir_w _) _ hF
    · rw [if_neg c4] at hF
      refine vj_iload_n G (p9 := 1) d_C_lastOf_28 rfl rfl ?_
      refine vj_bipush G (v := 6) d_C_lastOf_29 rfl ?_
      refine vj_imul G d_C_lastOf_31 ?_
      refine vj_iload_n G (p9 := 3) d_C_lastOf_32 rfl rfl ?_
      refine vj_iadd G d_C_lastOf_33 ?_
      cases hF
      exact vj_iret G0 (ir_w _) d_C_lastOf_34
set_option maxHeartbeats 4000000 in
set_option maxRecDepth 100000 in
theorem wl_C_lastOf_9 {w : Wd} {X : Cx} {r : Int} {M9 : Mm} (G0 : Gx LC w X "WhoRules$Charters" b_C_lastOf 4 0 0 (some .int)) (n : Nat) : ∀ (f : Nat) (x1 x2 x3 : Int) (hx1 : inR x1) (hx2 : inR x2) (hx3 : inR x3) (M : Mm), lp_C_lastOf_9 n f x1 x2 x3 M = some (r, M9) → VJ LC w X 4 1 r M9 M [(0, .ref (wa w 2)), (1, .int (i32 x1)), (2, .int (i32 x2)), (3, .int (i32 x3))] [] 9 := by
  intro f
  induction f with
  | zero => intro x1 x2 x3 hx1 hx2 hx3 M hF; cases hF
  | succ f ih => intro x1 x2 x3 hx1 hx2 hx3 M hF; exact wk_C_lastOf_9 G0 n (lp_C_lastOf_9 n f) ih x1 x2 x3 hx1 hx2 hx3 M hF
set_option maxHeartbeats 4000000 in
set_option maxRecDepth 100000 in
theorem ct_C_lastOf {w : Wd} (hij : ij LC w) (n : Nat) (x1 x2 : Int) (hx1 : inR x1) (hx2 : inR x2) {M : Mm} {r : Int} {M9 : Mm} (hF : f_C_lastOf n x1 x2 M = some (r, M9)) : Ct LC w y_C_lastOf b_C_lastOf 4 (some .int) 0 0 1 [.ref (wa w 2), .int (i32 x1), .int (i32 x2)] M r M9 := by
  refine Ct.of hij KstC (by decide +kernel) (Nat.le_of_ble_eq_true rfl) (fun X G0 => ?_)
  have G := G0.1
  show VJ LC w X 4 1 r M9 M [(0, .ref (wa w 2)), (1, .int (i32 x1)), (2, .int (i32 x2))] [] 0
  unfold f_C_lastOf at hF
  refine vj_aload_n G (p9 := 0) d_C_lastOf_0 rfl rfl ?_
  refine gfC_C_22 G d_C_lastOf_1 ?_
  refine vj_iload_n G (p9 := 1) d_C_lastOf_4 rfl rfl ?_
  obtain ⟨c1, hF⟩ := ck_some hF
  refine vj_iald G (x := x1) lkC_33 (by decide) c1 d_C_lastOf_5 ?_
  refine vj_mr (fun hM2 => ?_)
  refine vj_iconst G (v := 1) d_C_lastOf_6 rfl ?_
  refine vj_isub G d_C_lastOf_7 ?_
  refine vj_istore_n G (lv2 := [(3, .int (i32 (w32 ((M 33 x1.toNat) - 1)))), (0, .ref (wa w 2)), (1, .int (i32 x1)), (2, .int (i32 x2))]) d_C_lastOf_8 rfl (by decide) rfl ?_
  refine vj_sub [1, 2, 3, 0] rfl ?_
  exact wl_C_lastOf_9 G0 n  n x1 x2 (w32 ((M 33 x1.toNat) - 1)) hx1 hx2 (ir_w _) _ hF
set_option maxHeartbeats 4000000 in
set_option maxRecDepth 100000 in
theorem wk_C_inForce_79 {w : Wd} {X : Cx} {r : Int} {M9 : Mm} (G0 : Gx LC w X "WhoRules$Charters" b_C_inForce 8 1 23 (some .int)) (n : Nat) (k9 : Int → Int → Int → Int → Int → Int → Mm → Rr) (hk9 : ∀ (x1 x2 x3 x4 x5 x6 : Int) (hx1 : inR x1) (hx2 : inR x2) (hx3 : inR x3) (hx4 : inR x4) (hx5 : inR x5) (hx6 : inR x6) (M : Mm), k9 x1 x2 x3 x4 x5 x6 M = some (r, M9) → VJ LC w X 8 1 r M9 M [(0, .ref (wa w 2)), (1, .int (i32 x1)), (2, .int (i32 x2)), (3, .int (i32 x3)), (4, .int (i32 x4)), (5, .int (i32 x5)), (6, .int (i32 x6))] [] 9) (x1 x2 x3 x4 x5 x6 : Int) (hx1 : inR x1) (hx2 : inR x2) (hx3 : inR x3) (hx4 : inR x4) (hx5 : inR x5) (hx6 : inR x6) (M : Mm) (hF : f_C_inForce_79 n k9 x1 x2 x3 x4 x5 x6 M = some (r, M9)) : VJ LC w X 8 1 r M9 M [(0, .ref (wa w 2)), (1, .int (i32 x1)), (2, .int (i32 x2)), (3, .int (i32 x3)), (4, .int (i32 x4)), (5, .int (i32 x5)), (6, .int (i32 x6))] [] 79 := by
  have G := G0.1
  unfold f_C_inForce_79 at hF
  refine vj_iinc G (p9 := 6) (n := 1) (lv2 := [(6, .int (i32 (w32 (x6 + 1)))), (0, .ref (wa w 2)), (1, .int (i32 x1)), (2, .int (i32 x2)), (3, .int (i32 x3)), (4, .int (i32 x4)), (5, .int (i32 x5))]) d_C_inForce_79 rfl (by decide) rfl ?_
  refine vj_goto G (tgt := 9) d_C_inForce_82 (by decide) ?_
  refine vj_sub [1, 2, 3, 4, 5, 6, 0] rfl ?_
  exact hk9 x1 x2 x3 x4 x5 (w32 (x6 + 1)) hx1 hx2 hx3 hx4 hx5 (ir_w _) _ hF
set_option maxHeartbeats 4000000 in
set_option maxRecDepth 100000 in
theorem wk_C_inForce_9 {w : Wd} {X : Cx} {r : Int} {M9 : Mm} (G0 : Gx LC w X "WhoRules$Charters" b_C_inForce 8 1 23 (some .int)) (n : Nat) (k9 : Int → Int → Int → Int → Int → Int → Mm → Rr) (hk9 : ∀ (x1 x2 x3 x4 x5 x6 : Int) (hx1 : inR x1) (hx2 : inR x2) (hx3 : inR x3) (hx4 : inR x4) (hx5 : inR x5) (hx6 : inR x6) (M : Mm), k9 x1 x2 x3 x4 x5 x6 M = some (r, M9) → VJ LC w X 8 1 r M9 M [(0, .ref (wa w 2)), (1, .int (i32 x1)), (2, .int (i32 x2)), (3, .int (i32 x3)), (4, .int (i32 x4)), (5, .int (i32 x5)), (6, .int (i32 x6))] [] 9) (x1 x2 x3 x4 x5 x6 : Int) (hx1 : inR x1) (hx2 : inR x2) (hx3 : inR x3) (hx4 : inR x4) (hx5 : inR x5) (hx6 : inR x6) (M : Mm) (hF : f_C_inForce_9 n k9 x1 x2 x3 x4 x5 x6 M = some (r, M9)) : VJ LC w X 8 1 r M9 M [(0, .ref (wa w 2)), (1, .int (i32 x1)), (2, .int (i32 x2)), (3, .int (i32 x3)), (4, .int (i32 x4)), (5, .int (i32 x5)), (6, .int (i32 x6))] [] 9 := by
  have G := G0.1
  unfold f_C_inForce_9 at hF
  refine vj_iload G (p9 := 6) d_C_inForce_9 rfl ?_
  refine vj_aload_n G (p9 := 0) d_C_inForce_11 rfl rfl ?_
  refine gfC_C_44 G d_C_inForce_12 ?_
  refine vj_mr (fun hM1 => ?_)
  refine vj_icmp_ge G (tgt := 85) d_C_inForce_15 (by decide) hx6 (mr_o hM1 lkC_2 flC_8_0) (fun c2 => ?_) (fun c2 => ?_)
  · rw [if_pos c2] at hF
    refine vj_iload G (p9 := 4) d_C_inForce_85 rfl ?_
    cases hF
    exact vj_iret G0 hx4 d_C_inForce_87
  · rw [if_neg c2] at hF
    refine vj_aload_n G (p9 := 0) d_C_inForce_18 rfl rfl ?_
    refine gfC_C_15 G d_C_inForce_19 ?_
    refine vj_iload G (p9 := 6) d_C_inForce_22 rfl ?_
    obtain ⟨c3, hF⟩ := ck_some hF
    refine vj_iald G (x := x6) lkC_31 (by decide) c3 d_C_inForce_24 ?_
    refine vj_mr (fun hM4 => ?_)
    refine vj_iload_n G (p9 := 1) d_C_inForce_25 rfl rfl ?_
    refine vj_icmp_ne G (tgt := 79) d_C_inForce_26 (by decide) (mr_a hM4 lkC_31) hx1 (fun c5 => ?_) (fun c5 => ?_)
    · rw [if_pos c5] at hF
      exact wk_C_inForce_79 G0 n k9 hk9 x1 x2 x3 x4 x5 x6 hx1 hx2 hx3 hx4 hx5 hx6 _ hF
    · rw [if_neg c5] at hF
      refine vj_aload_n G (p9 := 0) d_C_inForce_29 rfl rfl ?_
      refine gfC_C_19 G d_C_inForce_30 ?_
      refine vj_iload G (p9 := 6) d_C_inForce_33 rfl ?_
      obtain ⟨c6, hF⟩ := ck_some hF
      refine vj_iald G (x := x6) lkC_32 (by decide) c6 d_C_inForce_35 ?_
      refine vj_mr (fun hM7 => ?_)
      refine vj_iload_n G (p9 := 3) d_C_inForce_36 rfl rfl ?_
      refine vj_icmp_gt G (tgt := 79) d_C_inForce_37 (by decide) (mr_a hM7 lkC_32) hx3 (fun c8 => ?_) (fun c8 => ?_)
      · rw [if_pos c8] at hF
        exact wk_C_inForce_79 G0 n k9 hk9 x1 x2 x3 x4 x5 x6 hx1 hx2 hx3 hx4 hx5 hx6 _ hF
      · rw [if_neg c8] at hF
        refine vj_aload_n G (p9 := 0) d_C_inForce_40 rfl rfl ?_
        refine gfC_C_19 G d_C_inForce_41 ?_
        refine vj_iload G (p9 := 6) d_C_inForce_44 rfl ?_
        obtain ⟨c9, hF⟩ := ck_some hF
        refine vj_iald G (x := x6) lkC_32 (by decide) c9 d_C_inForce_46 ?_
        refine vj_mr (fun hM10 => ?_)
        refine vj_iload G (p9 := 5) d_C_inForce_47 rfl ?_
        refine vj_icmp_lt G (tgt := 79) d_C_inForce_49 (by decide) (mr_a hM10 lkC_32) hx5 (fun c11 => ?_) (fun c11 => ?_)
        · rw [if_pos c11] at hF
          exact wk_C_inForce_79 G0 n k9 hk9 x1 x2 x3 x4 x5 x6 hx1 hx2 hx3 hx4 hx5 hx6 _ hF
        · rw [if_neg c11] at hF
          refine vj_aload_n G (p9 := 0) d_C_inForce_52 rfl rfl ?_
          refine vj_iload G (p9 := 6) d_C_inForce_53 rfl ?_
          refine vj_iload_n G (p9 := 2) d_C_inForce_55 rfl rfl ?_
          obtain ⟨r12, M12, e12, hF⟩ := bnd_some hF
          refine vj_callV1 G (ct_C_lastOf (gx_ij G) n x6 x2 hx6 hx2 e12) lkC_2 clC_8 rfl q_783 cq_C_lastOf rfl (by decide) (by decide) (Nat.le_of_ble_eq_true rfl) d_C_inForce_56 rfl (fun hr12 => ?_)
          refine vj_istore G (lv2 := [(7, .int (i32 r12)), (0, .ref (wa w 2)), (1, .int (i32 x1)), (2, .int (i32 x2)), (3, .int (i32 x3)), (4, .int (i32 x4)), (5, .int (i32 x5)), (6, .int (i32 x6))]) d_C_inForce_59 (by decide) rfl ?_
          refine vj_iload G (p9 := 0) d_C_inForce_61 rfl ?_
          refine vj_if_lt G (tgt := 79) d_C_inForce_63 (by decide) hr12 (fun c13 => ?_) (fun c13 => ?_)
          · rw [if_pos c13] at hF
            refine vj_sub [1, 2, 3, 4, 5, 6, 7] rfl ?_
            exact wk_C_inForce_79 G0 n k9 hk9 x1 x2 x3 x4 x5 x6 hx1 hx2 hx3 hx4 hx5 hx6 _ hF
          · rw [if_neg c13] at hF
            refine vj_iload G (p9 := 0) d_C_inForce_66 rfl ?_
            refine vj_istore G (lv2 := [(4, .int (i32 r12)), (7, .int (i32 r12)), (0, .ref (wa w 2)), (1, .int (i32 x1)), (2, .int (i32 x2)), (3, .int (i32 x3)), (5, .int (i32 x5)), (6, .int (i32 x6))]) d_C_inForce_68 (by decide) rfl ?_
            refine vj_aload_n G (p9 := 2) d_C_inForce_70 rfl rfl ?_
            refine gfC_C_19 G d_C_inForce_71 ?_
            refine vj_iload G (p9 := 7) d_C_inForce_74 rfl ?_
            obtain ⟨c14, hF⟩ := ck_some hF
            refine vj_iald G (x := x6) lkC_32 (by decide) c14 d_C_inForce_76 ?_
            refine vj_mr (fun hM15 => ?_)
            refine vj_istore G (lv2 := [(5, .int (i32 (M12 32 x6.toNat))), (4, .int (i32 r12)), (7, .int (i32 r12)), (0, .ref (wa w 2)), (1, .int (i32 x1)), (2, .int (i32 x2)), (3, .int (i32 x3)), (6, .int (i32 x6))]) d_C_inForce_77 (by decide) rfl ?_
            refine vj_sub [3, 4, 5, 6, 1, 0, 7] rfl ?_
            exact wk_C_inForce_79 G0 n k9 hk9 x1 x2 x3 r12 (M12 32 x6.toNat) x6 hx1 hx2 hx3 hr12 (mr_a hM15 lkC_32) hx6 _ hF
set_option maxHeartbeats 4000000 in
set_option maxRecDepth 100000 in
theorem wl_C_inForce_9 {w : Wd} {X : Cx} {r : Int} {M9 : Mm} (G0 : Gx LC w X "WhoRules$Charters" b_C_inForce 8 1 23 (some .int)) (n : Nat) : ∀ (f : Nat) (x1 x2 x3 x4 x5 x6 : Int) (hx1 : inR x1) (hx2 : inR x2) (hx3 : inR x3) (hx4 : inR x4) (hx5 : inR x5) (hx6 : inR x6) (M : Mm), lp_C_inForce_9 n f x1 x2 x3 x4 x5 x6 M = some (r, M9) → VJ LC w X 8 1 r M9 M [(0, .ref (wa w 2)), (1, .int (i32 x1)), (2, .int (i32 x2)), (3, .int (i32 x3)), (4, .int (i32 x4)), (5, .int (i32 x5)), (6, .int (i32 x6))] [] 9 := by
  intro f
  induction f with
  | zero => intro x1 x2 x3 x4 x5 x6 hx1 hx2 hx3 hx4 hx5 hx6 M hF; cases hF
  | succ f ih => intro x1 x2 x3 x4 x5 x6 hx1 hx2 hx3 hx4 hx5 hx6 M hF; exact wk_C_inForce_9 G0 n (lp_C_inForce_9 n f) ih x1 x2 x3 x4 x5 x6 hx1 hx2 hx3 hx4 hx5 hx6 M hF
set_option maxHeartbeats 4000000 in
set_option maxRecDepth 100000 in
theorem ct_C_inForce {w : Wd} (hij : ij LC w) (n : Nat) (x1 x2 x3 : Int) (hx1 : inR x1) (hx2 : inR x2) (hx3 : inR x3) {M : Mm} {r : Int} {M9 : Mm} (hF : f_C_inForce n x1 x2 x3 M = some (r, M9)) : Ct LC w y_C_inForce b_C_inForce 8 (some .int) 1 23 1 [.ref (wa w 2), .int (i32 x1), .int (i32 x2), .int (i32 x3)] M r M9 := by
  refine Ct.of hij KstC (by decide +kernel) (Nat.le_of_ble_eq_true rfl) (fun X G0 => ?_)
  have G := G0.1
  show VJ LC w X 8 1 r M9 M [(0, .ref (wa w 2)), (1, .int (i32 x1)), (2, .int (i32 x2)), (3, .int (i32 x3))] [] 0
  unfold f_C_inForce at hF
  refine vj_iconst G (v := (-1)) d_C_inForce_0 rfl ?_
  refine vj_istore G (lv2 := [(4, .int (i32 (-1))), (0, .ref (wa w 2)), (1, .int (i32 x1)), (2, .int (i32 x2)), (3, .int (i32 x3))]) d_C_inForce_1 (by decide) rfl ?_
  refine vj_iconst G (v := (-1)) d_C_inForce_3 rfl ?_
  refine vj_istore G (lv2 := [(5, .int (i32 (-1))), (4, .int (i32 (-1))), (0, .ref (wa w 2)), (1, .int (i32 x1)), (2, .int (i32 x2)), (3, .int (i32 x3))]) d_C_inForce_4 (by decide) rfl ?_
  refine vj_iconst G (v := 0) d_C_inForce_6 rfl ?_
  refine vj_istore G (lv2 := [(6, .int (i32 0)), (5, .int (i32 (-1))), (4, .int (i32 (-1))), (0, .ref (wa w 2)), (1, .int (i32 x1)), (2, .int (i32 x2)), (3, .int (i32 x3))]) d_C_inForce_7 (by decide) rfl ?_
  refine vj_sub [3, 4, 5, 6, 2, 1, 0] rfl ?_
  exact wl_C_inForce_9 G0 n  n x1 x2 x3 (-1) (-1) 0 hx1 hx2 hx3 ic_m1 ic_m1 ic_0 _ hF
set_option maxHeartbeats 4000000 in
set_option maxRecDepth 100000 in
theorem ct_C_firstOf {w : Wd} (hij : ij LC w) (n : Nat) (x1 x2 : Int) (hx1 : inR x1) (hx2 : inR x2) {M : Mm} {r : Int} {M9 : Mm} (hF : f_C_firstOf n x1 x2 M = some (r, M9)) : Ct LC w y_C_firstOf b_C_firstOf 3 (some .int) 0 0 1 [.ref (wa w 2), .int (i32 x1), .int (i32 x2)] M r M9 := by
  refine Ct.of hij KstC (by decide +kernel) (Nat.le_of_ble_eq_true rfl) (fun X G0 => ?_)
  have G := G0.1
  show VJ LC w X 3 1 r M9 M [(0, .ref (wa w 2)), (1, .int (i32 x1)), (2, .int (i32 x2))] [] 0
  unfold f_C_firstOf at hF
  refine vj_iload_n G (p9 := 1) d_C_firstOf_0 rfl rfl ?_
  refine vj_if_lt G (tgt := 11) d_C_firstOf_1 (by decide) hx1 (fun c1 => ?_) (fun c1 => ?_)
  · rw [if_pos c1] at hF
    refine vj_iload_n G (p9 := 2) d_C_firstOf_11 rfl rfl ?_
    by_cases c2 : x2 = 0
    · rw [if_pos c2] at hF
      rw [c2]
      refine vj_lsw G (x := 0) (tgt := 40) d_C_firstOf_12 (by exact ⟨by decide, by decide⟩) rfl rfl (by decide) ?_
      refine vj_iconst G (v := 1) d_C_firstOf_40 rfl ?_
      cases hF
      exact vj_iret G0 ic_1 d_C_firstOf_41
    · rw [if_neg c2] at hF
      by_cases c3 : x2 = 3
      · rw [if_pos c3] at hF
        rw [c3]
        refine vj_lsw G (x := 3) (tgt := 42) d_C_firstOf_12 (by exact ⟨by decide, by decide⟩) rfl rfl (by decide) ?_
        refine vj_bipush G (v := (-5)) d_C_firstOf_42 rfl ?_
        cases hF
        exact vj_iret G0 ic_m5 d_C_firstOf_44
      · rw [if_neg c3] at hF
        refine vj_lsw G (x := x2) (off := 33) (tgt := 45) d_C_firstOf_12 hx2 rfl (by simp only [Op.lookupswitch.offset]; (repeat rw [if_neg (by omega)])) (by decide) ?_
        refine vj_sipush G (v := 999) d_C_firstOf_45 rfl ?_
        cases hF
        exact vj_iret G0 ic_999 d_C_firstOf_48
  · rw [if_neg c1] at hF
    refine vj_aload_n G (p9 := 0) d_C_firstOf_4 rfl rfl ?_
    refine gfC_C_28 G d_C_firstOf_5 ?_
    refine vj_iload_n G (p9 := 1) d_C_firstOf_8 rfl rfl ?_
    obtain ⟨c4, hF⟩ := ck_some hF
    refine vj_iald G (x := x1) lkC_35 (by decide) c4 d_C_firstOf_9 ?_
    refine vj_mr (fun hM5 => ?_)
    cases hF
    exact vj_iret G0 (mr_a hM5 lkC_35) d_C_firstOf_10
set_option maxHeartbeats 4000000 in
set_option maxRecDepth 100000 in
theorem wk_R_isVoteless_32 {w : Wd} {X : Cx} {r : Int} {M9 : Mm} (G0 : Gx LC w X "WhoRules$Register" b_R_isVoteless 2 1 21 (some .boolean)) (n : Nat) (M : Mm) (hF : f_R_isVoteless_32 n  M = some (r, M9)) : VJ LC w X 2 3 r M9 M [] [] 32 := by
  have G := G0.1
  unfold f_R_isVoteless_32 at hF
  refine vj_iconst G (v := 0) d_R_isVoteless_32 rfl ?_
  cases hF
  exact vj_zret G0 (Or.inl rfl) d_R_isVoteless_33
set_option maxHeartbeats 4000000 in
set_option maxRecDepth 100000 in
theorem ct_R_isVoteless {w : Wd} (hij : ij LC w) (n : Nat) (x1 : Int) (hx1 : inR x1) {M : Mm} {r : Int} {M9 : Mm} (hF : f_R_isVoteless n x1 M = some (r, M9)) : Ct LC w y_R_isVoteless b_R_isVoteless 2 (some .boolean) 1 21 3 [.ref (wa w 1), .int (i32 x1)] M r M9 := by
  refine Ct.of hij KstC (by decide +kernel) (Nat.le_of_ble_eq_true rfl) (fun X G0 => ?_)
  have G := G0.1
  show VJ LC w X 2 3 r M9 M [(0, .ref (wa w 1)), (1, .int (i32 x1))] [] 0
  unfold f_R_isVoteless at hF
  refine vj_aload_n G (p9 := 0) d_R_isVoteless_0 rfl rfl ?_
  refine vj_iload_n G (p9 := 1) d_R_isVoteless_1 rfl rfl ?_
  obtain ⟨r1, M1, e1, hF⟩ := bnd_some hF
  refine vj_callV3 G (ct_R_isHolder (gx_ij G) n x1 hx1 e1) lkC_1 clC_7 rfl q_584 cq_R_isHolder rfl (by decide) (by decide) (Nat.le_of_ble_eq_true rfl) d_R_isVoteless_2 rfl (fun hr1 => ?_)
  refine vj_if_eq G (tgt := 32) d_R_isVoteless_5 (by decide) (ir_b hr1) (fun c2 => ?_) (fun c2 => ?_)
  · rw [if_pos c2] at hF
    refine vj_sub [] rfl ?_
    exact wk_R_isVoteless_32 G0 n    _ hF
  · rw [if_neg c2] at hF
    refine vj_aload_n G (p9 := 0) d_R_isVoteless_8 rfl rfl ?_
    refine gfC_R_17 G d_R_isVoteless_9 ?_
    refine vj_iload_n G (p9 := 1) d_R_isVoteless_12 rfl rfl ?_
    obtain ⟨c3, hF⟩ := ck_some hF
    refine vj_iald G (x := x1) lkC_17 (by decide) c3 d_R_isVoteless_13 ?_
    refine vj_mr (fun hM4 => ?_)
    refine vj_iconst G (v := 4) d_R_isVoteless_14 rfl ?_
    refine vj_icmp_eq G (tgt := 28) d_R_isVoteless_15 (by decide) (mr_a hM4 lkC_17) ic_4 (fun c5 => ?_) (fun c5 => ?_)
    · rw [if_pos c5] at hF
      refine vj_iconst G (v := 1) d_R_isVoteless_28 rfl ?_
      refine vj_goto G (tgt := 33) d_R_isVoteless_29 (by decide) ?_
      cases hF
      exact vj_zret G0 (Or.inr rfl) d_R_isVoteless_33
    · rw [if_neg c5] at hF
      refine vj_aload_n G (p9 := 0) d_R_isVoteless_18 rfl rfl ?_
      refine gfC_R_17 G d_R_isVoteless_19 ?_
      refine vj_iload_n G (p9 := 1) d_R_isVoteless_22 rfl rfl ?_
      obtain ⟨c6, hF⟩ := ck_some hF
      refine vj_iald G (x := x1) lkC_17 (by decide) c6 d_R_isVoteless_23 ?_
      refine vj_mr (fun hM7 => ?_)
      refine vj_iconst G (v := 5) d_R_isVoteless_24 rfl ?_
      refine vj_icmp_ne G (tgt := 32) d_R_isVoteless_25 (by decide) (mr_a hM7 lkC_17) ic_5 (fun c8 => ?_) (fun c8 => ?_)
      · rw [if_pos c8] at hF
        refine vj_sub [] rfl ?_
        exact wk_R_isVoteless_32 G0 n    _ hF
      · rw [if_neg c8] at hF
        refine vj_iconst G (v := 1) d_R_isVoteless_28 rfl ?_
        refine vj_goto G (tgt := 33) d_R_isVoteless_29 (by decide) ?_
        cases hF
        exact vj_zret G0 (Or.inr rfl) d_R_isVoteless_33
set_option maxHeartbeats 4000000 in
set_option maxRecDepth 100000 in
theorem wk_C_holds_183 {w : Wd} {X : Cx} {r : Int} {M9 : Mm} (G0 : Gx LC w X "WhoRules$Charters" b_C_holds 10 0 0 (some .boolean)) (n : Nat) (k10 : Int → Int → Int → Mm → Rr) (hk10 : ∀ (x1 x3 x4 : Int) (hx1 : inR x1) (hx3 : inR x3) (hx4 : inR x4) (M : Mm), k10 x1 x3 x4 M = some (r, M9) → VJ LC w X 10 3 r M9 M [(0, .ref (wa w 2)), (1, .int (i32 x1)), (2, .ref (wa w 41)), (3, .int (i32 x3)), (4, .int (i32 x4))] [] 10) (x1 x3 x4 : Int) (hx1 : inR x1) (hx3 : inR x3) (hx4 : inR x4) (M : Mm) (hF : f_C_holds_183 n k10 x1 x3 x4 M = some (r, M9)) : VJ LC w X 10 3 r M9 M [(0, .ref (wa w 2)), (1, .int (i32 x1)), (2, .ref (wa w 41)), (3, .int (i32 x3)), (4, .int (i32 x4))] [] 183 := by
  have G := G0.1
  unfold f_C_holds_183 at hF
  refine vj_iinc G (p9 := 4) (n := 1) (lv2 := [(4, .int (i32 (w32 (x4 + 1)))), (0, .ref (wa w 2)), (1, .int (i32 x1)), (2, .ref (wa w 41)), (3, .int (i32 x3))]) d_C_holds_183 rfl (by decide) rfl ?_
  refine vj_goto G (tgt := 10) d_C_holds_186 (by decide) ?_
  refine vj_sub [1, 2, 3, 4, 0] rfl ?_
  exact hk10 x1 x3 (w32 (x4 + 1)) hx1 hx3 (ir_w _) _ hF
set_option maxHeartbeats 4000000 in
set_option maxRecDepth 100000 in
theorem wk_C_holds_182 {w : Wd} {X : Cx} {r : Int} {M9 : Mm} (G0 : Gx LC w X "WhoRules$Charters" b_C_holds 10 0 0 (some .boolean)) (n : Nat) (k10 : Int → Int → Int → Mm → Rr) (hk10 : ∀ (x1 x3 x4 : Int) (hx1 : inR x1) (hx3 : inR x3) (hx4 : inR x4) (M : Mm), k10 x1 x3 x4 M = some (r, M9) → VJ LC w X 10 3 r M9 M [(0, .ref (wa w 2)), (1, .int (i32 x1)), (2, .ref (wa w 41)), (3, .int (i32 x3)), (4, .int (i32 x4))] [] 10) (x1 x4 s0 : Int) (hx1 : inR x1) (hx4 : inR x4) (hs0 : inR s0) (M : Mm) (hF : f_C_holds_182 n k10 x1 x4 s0 M = some (r, M9)) : VJ LC w X 10 3 r M9 M [(0, .ref (wa w 2)), (1, .int (i32 x1)), (2, .ref (wa w 41)), (4, .int (i32 x4))] [.int (i32 s0)] 182 := by
  have G := G0.1
  unfold f_C_holds_182 at hF
  refine vj_istore_n G (lv2 := [(3, .int (i32 s0)), (0, .ref (wa w 2)), (1, .int (i32 x1)), (2, .ref (wa w 41)), (4, .int (i32 x4))]) d_C_holds_182 rfl (by decide) rfl ?_
  refine vj_sub [1, 2, 3, 0, 4] rfl ?_
  exact wk_C_holds_183 G0 n k10 hk10 x1 s0 x4 hx1 hs0 hx4 _ hF
set_option maxHeartbeats 4000000 in
set_option maxRecDepth 100000 in
theorem wk_C_holds_133 {w : Wd} {X : Cx} {r : Int} {M9 : Mm} (G0 : Gx LC w X "WhoRules$Charters" b_C_holds 10 0 0 (some .boolean)) (n : Nat) (k10 : Int → Int → Int → Mm → Rr) (hk10 : ∀ (x1 x3 x4 : Int) (hx1 : inR x1) (hx3 : inR x3) (hx4 : inR x4) (M : Mm), k10 x1 x3 x4 M = some (r, M9) → VJ LC w X 10 3 r M9 M [(0, .ref (wa w 2)), (1, .int (i32 x1)), (2, .ref (wa w 41)), (3, .int (i32 x3)), (4, .int (i32 x4))] [] 10) (x1 x4 s0 s1 : Int) (hx1 : inR x1) (hx4 : inR x4) (hs0 : inR s0) (hs1 : inB s1) (M : Mm) (hF : f_C_holds_133 n k10 x1 x4 s0 s1 M = some (r, M9)) : VJ LC w X 10 3 r M9 M [(0, .ref (wa w 2)), (1, .int (i32 x1)), (2, .ref (wa w 41)), (4, .int (i32 x4))] [.int (i32 s1), .int (i32 s0)] 133 := by
  have G := G0.1
  unfold f_C_holds_133 at hF
  refine vj_ior G d_C_holds_133 ?_
  refine vj_istore_n G (lv2 := [(3, .int (i32 (ior s0 s1))), (0, .ref (wa w 2)), (1, .int (i32 x1)), (2, .ref (wa w 41)), (4, .int (i32 x4))]) d_C_holds_134 rfl (by decide) rfl ?_
  refine vj_goto G (tgt := 183) d_C_holds_135 (by decide) ?_
  refine vj_sub [1, 2, 3, 0, 4] rfl ?_
  exact wk_C_holds_183 G0 n k10 hk10 x1 (ior s0 s1) x4 hx1 (ir_or _ _) hx4 _ hF
set_option maxHeartbeats 4000000 in
set_option maxRecDepth 100000 in
theorem wk_C_holds_118 {w : Wd} {X : Cx} {r : Int} {M9 : Mm} (G0 : Gx LC w X "WhoRules$Charters" b_C_holds 10 0 0 (some .boolean)) (n : Nat) (k10 : Int → Int → Int → Mm → Rr) (hk10 : ∀ (x1 x3 x4 : Int) (hx1 : inR x1) (hx3 : inR x3) (hx4 : inR x4) (M : Mm), k10 x1 x3 x4 M = some (r, M9) → VJ LC w X 10 3 r M9 M [(0, .ref (wa w 2)), (1, .int (i32 x1)), (2, .ref (wa w 41)), (3, .int (i32 x3)), (4, .int (i32 x4))] [] 10) (x1 x3 x4 s0 : Int) (hx1 : inR x1) (hx3 : inR x3) (hx4 : inR x4) (hs0 : inB s0) (M : Mm) (hF : f_C_holds_118 n k10 x1 x3 x4 s0 M = some (r, M9)) : VJ LC w X 10 3 r M9 M [(0, .ref (wa w 2)), (1, .int (i32 x1)), (2, .ref (wa w 41)), (3, .int (i32 x3)), (4, .int (i32 x4))] [.int (i32 s0)] 118 := by
  have G := G0.1
  unfold f_C_holds_118 at hF
  refine vj_istore G (lv2 := [(9, .int (i32 s0)), (0, .ref (wa w 2)), (1, .int (i32 x1)), (2, .ref (wa w 41)), (3, .int (i32 x3)), (4, .int (i32 x4))]) d_C_holds_118 (by decide) rfl ?_
  refine vj_iload_n G (p9 := 4) d_C_holds_120 rfl rfl ?_
  refine vj_iconst G (v := 1) d_C_holds_121 rfl ?_
  refine vj_ishl G d_C_holds_122 ?_
  refine vj_iload G (p9 := 0) d_C_holds_123 rfl ?_
  refine vj_if_eq G (tgt := 132) d_C_holds_125 (by decide) (ir_b hs0) (fun c1 => ?_) (fun c1 => ?_)
  · rw [if_pos c1] at hF
    refine vj_iconst G (v := 0) d_C_holds_132 rfl ?_
    refine vj_sub [1, 2, 3, 5] rfl ?_
    exact wk_C_holds_133 G0 n k10 hk10 x1 x4 (ish x3 1) 0 hx1 hx4 (ir_sh _ _) (Or.inl rfl) _ hF
  · rw [if_neg c1] at hF
    refine vj_iconst G (v := 1) d_C_holds_128 rfl ?_
    refine vj_goto G (tgt := 133) d_C_holds_129 (by decide) ?_
    refine vj_sub [1, 2, 3, 5] rfl ?_
    exact wk_C_holds_133 G0 n k10 hk10 x1 x4 (ish x3 1) 1 hx1 hx4 (ir_sh _ _) (Or.inr rfl) _ hF
set_option maxHeartbeats 4000000 in
set_option maxRecDepth 100000 in
theorem wk_C_holds_10 {w : Wd} {X : Cx} {r : Int} {M9 : Mm} (G0 : Gx LC w X "WhoRules$Charters" b_C_holds 10 0 0 (some .boolean)) (n : Nat) (k10 : Int → Int → Int → Mm → Rr) (hk10 : ∀ (x1 x3 x4 : Int) (hx1 : inR x1) (hx3 : inR x3) (hx4 : inR x4) (M : Mm), k10 x1 x3 x4 M = some (r, M9) → VJ LC w X 10 3 r M9 M [(0, .ref (wa w 2)), (1, .int (i32 x1)), (2, .ref (wa w 41)), (3, .int (i32 x3)), (4, .int (i32 x4))] [] 10) (x1 x3 x4 : Int) (hx1 : inR x1) (hx3 : inR x3) (hx4 : inR x4) (M : Mm) (hF : f_C_holds_10 n k10 x1 x3 x4 M = some (r, M9)) : VJ LC w X 10 3 r M9 M [(0, .ref (wa w 2)), (1, .int (i32 x1)), (2, .ref (wa w 41)), (3, .int (i32 x3)), (4, .int (i32 x4))] [] 10 := by
  have G := G0.1
  unfold f_C_holds_10 at hF
  refine vj_iload G (p9 := 4) d_C_holds_10 rfl ?_
  refine vj_aload_n G (p9 := 0) d_C_holds_12 rfl rfl ?_
  refine gfC_C_31 G d_C_holds_13 ?_
  refine vj_iload_n G (p9 := 1) d_C_holds_16 rfl rfl ?_
  obtain ⟨c1, hF⟩ := ck_some hF
  refine vj_iald G (x := x1) lkC_36 (by decide) c1 d_C_holds_17 ?_
  refine vj_mr (fun hM2 => ?_)
  refine vj_icmp_ge G (tgt := 189) d_C_holds_18 (by decide) hx4 (mr_a hM2 lkC_36) (fun c3 => ?_) (fun c3 => ?_)
  · rw [if_pos c3] at hF
    refine vj_iload_n G (p9 := 3) d_C_holds_189 rfl rfl ?_
    refine vj_iconst G (v := 1) d_C_holds_190 rfl ?_
    refine vj_iand G d_C_holds_191 ?_
    refine vj_iconst G (v := 1) d_C_holds_192 rfl ?_
    refine vj_icmp_ne G (tgt := 200) d_C_holds_193 (by decide) (ir_an _ _) ic_1 (fun c4 => ?_) (fun c4 => ?_)
    · rw [if_pos c4] at hF
      refine vj_iconst G (v := 0) d_C_holds_200 rfl ?_
      cases hF
      exact vj_zret G0 (Or.inl rfl) d_C_holds_201
    · rw [if_neg c4] at hF
      refine vj_iconst G (v := 1) d_C_holds_196 rfl ?_
      refine vj_goto G (tgt := 201) d_C_holds_197 (by decide) ?_
      cases hF
      exact vj_zret G0 (Or.inr rfl) d_C_holds_201
  · rw [if_neg c3] at hF
    refine vj_aload_n G (p9 := 0) d_C_holds_21 rfl rfl ?_
    refine gfC_C_34 G d_C_holds_22 ?_
    refine vj_iload G (p9 := 4) d_C_holds_25 rfl ?_
    obtain ⟨c5, hF⟩ := ck_some hF
    refine vj_iald G (x := x4) lkC_37 (by decide) c5 d_C_holds_27 ?_
    refine vj_mr (fun hM6 => ?_)
    refine vj_istore G (lv2 := [(5, .int (i32 (M 37 x4.toNat))), (0, .ref (wa w 2)), (1, .int (i32 x1)), (2, .ref (wa w 41)), (3, .int (i32 x3)), (4, .int (i32 x4))]) d_C_holds_28 (by decide) rfl ?_
    refine vj_iload G (p9 := 0) d_C_holds_30 rfl ?_
    refine vj_if_lt G (tgt := 138) d_C_holds_32 (by decide) (mr_a hM6 lkC_37) (fun c7 => ?_) (fun c7 => ?_)
    · rw [if_pos c7] at hF
      refine vj_iload G (p9 := 0) d_C_holds_138 rfl ?_
      refine vj_bipush G (v := (-3)) d_C_holds_140 rfl ?_
      refine vj_icmp_ne G (tgt := 152) d_C_holds_142 (by decide) (mr_a hM6 lkC_37) ic_m3 (fun c8 => ?_) (fun c8 => ?_)
      · rw [if_pos c8] at hF
        refine vj_iload_n G (p9 := 4) d_C_holds_152 rfl rfl ?_
        refine vj_iconst G (v := 1) d_C_holds_153 rfl ?_
        refine vj_iand G d_C_holds_154 ?_
        refine vj_istore G (lv2 := [(6, .int (i32 (ian x3 1))), (5, .int (i32 (M 37 x4.toNat))), (0, .ref (wa w 2)), (1, .int (i32 x1)), (2, .ref (wa w 41)), (3, .int (i32 x3)), (4, .int (i32 x4))]) d_C_holds_155 (by decide) rfl ?_
        refine vj_iload_n G (p9 := 5) d_C_holds_157 rfl rfl ?_
        refine vj_iconst G (v := 1) d_C_holds_158 rfl ?_
        refine vj_ishr G d_C_holds_159 ?_
        refine vj_istore_n G (lv2 := [(3, .int (i32 (isr x3 1))), (6, .int (i32 (ian x3 1))), (5, .int (i32 (M 37 x4.toNat))), (0, .ref (wa w 2)), (1, .int (i32 x1)), (2, .ref (wa w 41)), (4, .int (i32 x4))]) d_C_holds_160 rfl (by decide) rfl ?_
        refine vj_iload G (p9 := 2) d_C_holds_161 rfl ?_
        refine vj_bipush G (v := (-2)) d_C_holds_163 rfl ?_
        refine vj_icmp_ne G (tgt := 175) d_C_holds_165 (by decide) (mr_a hM6 lkC_37) ic_m2 (fun c9 => ?_) (fun c9 => ?_)
        · rw [if_pos c9] at hF
          refine vj_iload_n G (p9 := 0) d_C_holds_175 rfl rfl ?_
          refine vj_iload G (p9 := 1) d_C_holds_176 rfl ?_
          refine vj_bipush G (v := (-2)) d_C_holds_178 rfl ?_
          refine vj_ior G d_C_holds_180 ?_
          refine vj_iand G d_C_holds_181 ?_
          refine vj_sub [3, 4, 5, 6] rfl ?_
          exact wk_C_holds_182 G0 n k10 hk10 x1 x4 (ian (isr x3 1) (ior (ian x3 1) (-2))) hx1 hx4 (ir_an _ _) _ hF
        · rw [if_neg c9] at hF
          refine vj_iload_n G (p9 := 0) d_C_holds_168 rfl rfl ?_
          refine vj_iload G (p9 := 1) d_C_holds_169 rfl ?_
          refine vj_ior G d_C_holds_171 ?_
          refine vj_goto G (tgt := 182) d_C_holds_172 (by decide) ?_
          refine vj_sub [3, 4, 5, 6] rfl ?_
          exact wk_C_holds_182 G0 n k10 hk10 x1 x4 (ior (isr x3 1) (ian x3 1)) hx1 hx4 (ir_or _ _) _ hF
      · rw [if_neg c8] at hF
        refine vj_iload_n G (p9 := 4) d_C_holds_145 rfl rfl ?_
        refine vj_iconst G (v := 1) d_C_holds_146 rfl ?_
        refine vj_ixor G d_C_holds_147 ?_
        refine vj_istore_n G (lv2 := [(3, .int (i32 (ixo x3 1))), (5, .int (i32 (M 37 x4.toNat))), (0, .ref (wa w 2)), (1, .int (i32 x1)), (2, .ref (wa w 41)), (4, .int (i32 x4))]) d_C_holds_148 rfl (by decide) rfl ?_
        refine vj_goto G (tgt := 183) d_C_holds_149 (by decide) ?_
        refine vj_sub [2, 3, 4, 0, 5] rfl ?_
        exact wk_C_holds_183 G0 n k10 hk10 x1 (ixo x3 1) x4 hx1 (ir_xo _ _) hx4 _ hF
    · rw [if_neg c7] at hF
      refine vj_aload_n G (p9 := 3) d_C_holds_35 rfl rfl ?_
      refine vj_iload G (p9 := 0) d_C_holds_36 rfl ?_
      refine vj_sipush G (v := 3000) d_C_holds_38 rfl ?_
      refine vj_idiv G d_C_holds_41 ic_3000 (by decide) ?_
      obtain ⟨c10, hF⟩ := ck_some hF
      refine vj_iald G (x := idv (M 37 x4.toNat) 3000) lkC_41 (by decide) c10 d_C_holds_42 ?_
      refine vj_mr (fun hM11 => ?_)
      refine vj_istore G (lv2 := [(6, .int (i32 (M 41 (idv (M 37 x4.toNat) 3000).toNat))), (5, .int (i32 (M 37 x4.toNat))), (0, .ref (wa w 2)), (1, .int (i32 x1)), (2, .ref (wa w 41)), (3, .int (i32 x3)), (4, .int (i32 x4))]) d_C_holds_43 (by decide) rfl ?_
      refine vj_iload G (p9 := 1) d_C_holds_45 rfl ?_
      refine vj_sipush G (v := 1000) d_C_holds_47 rfl ?_
      refine vj_irem G d_C_holds_50 ic_1000 (by decide) ?_
      refine vj_istore G (lv2 := [(7, .int (i32 (irm (M 37 x4.toNat) 1000))), (6, .int (i32 (M 41 (idv (M 37 x4.toNat) 3000).toNat))), (5, .int (i32 (M 37 x4.toNat))), (0, .ref (wa w 2)), (1, .int (i32 x1)), (2, .ref (wa w 41)), (3, .int (i32 x3)), (4, .int (i32 x4))]) d_C_holds_51 (by decide) rfl ?_
      refine vj_iload G (p9 := 2) d_C_holds_53 rfl ?_
      refine vj_sipush G (v := 3000) d_C_holds_55 rfl ?_
      refine vj_irem G d_C_holds_58 ic_3000 (by decide) ?_
      refine vj_sipush G (v := 1000) d_C_holds_59 rfl ?_
      refine vj_idiv G d_C_holds_62 ic_1000 (by decide) ?_
      refine vj_istore G (lv2 := [(8, .int (i32 (idv (irm (M 37 x4.toNat) 3000) 1000))), (7, .int (i32 (irm (M 37 x4.toNat) 1000))), (6, .int (i32 (M 41 (idv (M 37 x4.toNat) 3000).toNat))), (5, .int (i32 (M 37 x4.toNat))), (0, .ref (wa w 2)), (1, .int (i32 x1)), (2, .ref (wa w 41)), (3, .int (i32 x3)), (4, .int (i32 x4))]) d_C_holds_63 (by decide) rfl ?_
      refine vj_iload G (p9 := 0) d_C_holds_65 rfl ?_
      refine vj_if_ne G (tgt := 85) d_C_holds_67 (by decide) (ir_dv _ _) (fun c12 => ?_) (fun c12 => ?_)
      · rw [if_pos c12] at hF
        refine vj_iload G (p9 := 0) d_C_holds_85 rfl ?_
        refine vj_iconst G (v := 1) d_C_holds_87 rfl ?_
        refine vj_icmp_ne G (tgt := 106) d_C_holds_88 (by decide) (ir_dv _ _) ic_1 (fun c13 => ?_) (fun c13 => ?_)
        · rw [if_pos c13] at hF
          refine vj_iload G (p9 := 2) d_C_holds_106 rfl ?_
          refine vj_iload G (p9 := 1) d_C_holds_108 rfl ?_
          refine vj_icmp_le G (tgt := 117) d_C_holds_110 (by decide) (mr_a hM11 lkC_41) (ir_rm _ _) (fun c14 => ?_) (fun c14 => ?_)
          · rw [if_pos c14] at hF
            refine vj_iconst G (v := 0) d_C_holds_117 rfl ?_
            refine vj_sub [4, 5, 6, 7, 8] rfl ?_
            exact wk_C_holds_118 G0 n k10 hk10 x1 x3 x4 0 hx1 hx3 hx4 (Or.inl rfl) _ hF
          · rw [if_neg c14] at hF
            refine vj_iconst G (v := 1) d_C_holds_113 rfl ?_
            refine vj_goto G (tgt := 118) d_C_holds_114 (by decide) ?_
            refine vj_sub [4, 5, 6, 7, 8] rfl ?_
            exact wk_C_holds_118 G0 n k10 hk10 x1 x3 x4 1 hx1 hx3 hx4 (Or.inr rfl) _ hF
        · rw [if_neg c13] at hF
          refine vj_iload G (p9 := 2) d_C_holds_91 rfl ?_
          refine vj_iload G (p9 := 1) d_C_holds_93 rfl ?_
          refine vj_icmp_ne G (tgt := 102) d_C_holds_95 (by decide) (mr_a hM11 lkC_41) (ir_rm _ _) (fun c15 => ?_) (fun c15 => ?_)
          · rw [if_pos c15] at hF
            refine vj_iconst G (v := 0) d_C_holds_102 rfl ?_
            refine vj_goto G (tgt := 118) d_C_holds_103 (by decide) ?_
            refine vj_sub [4, 5, 6, 7, 8] rfl ?_
            exact wk_C_holds_118 G0 n k10 hk10 x1 x3 x4 0 hx1 hx3 hx4 (Or.inl rfl) _ hF
          · rw [if_neg c15] at hF
            refine vj_iconst G (v := 1) d_C_holds_98 rfl ?_
            refine vj_goto G (tgt := 118) d_C_holds_99 (by decide) ?_
            refine vj_sub [4, 5, 6, 7, 8] rfl ?_
            exact wk_C_holds_118 G0 n k10 hk10 x1 x3 x4 1 hx1 hx3 hx4 (Or.inr rfl) _ hF
      · rw [if_neg c12] at hF
        refine vj_iload G (p9 := 2) d_C_holds_70 rfl ?_
        refine vj_iload G (p9 := 1) d_C_holds_72 rfl ?_
        refine vj_icmp_ge G (tgt := 81) d_C_holds_74 (by decide) (mr_a hM11 lkC_41) (ir_rm _ _) (fun c16 => ?_) (fun c16 => ?_)
        · rw [if_pos c16] at hF
          refine vj_iconst G (v := 0) d_C_holds_81 rfl ?_
          refine vj_goto G (tgt := 118) d_C_holds_82 (by decide) ?_
          refine vj_sub [4, 5, 6, 7, 8] rfl ?_
          exact wk_C_holds_118 G0 n k10 hk10 x1 x3 x4 0 hx1 hx3 hx4 (Or.inl rfl) _ hF
        · rw [if_neg c16] at hF
          refine vj_iconst G (v := 1) d_C_holds_77 rfl ?_
          refine vj_goto G (tgt := 118) d_C_holds_78 (by decide) ?_
          refine vj_sub [4, 5, 6, 7, 8] rfl ?_
          exact wk_C_holds_118 G0 n k10 hk10 x1 x3 x4 1 hx1 hx3 hx4 (Or.inr rfl) _ hF
set_option maxHeartbeats 4000000 in
set_option maxRecDepth 100000 in
theorem wl_C_holds_10 {w : Wd} {X : Cx} {r : Int} {M9 : Mm} (G0 : Gx LC w X "WhoRules$Charters" b_C_holds 10 0 0 (some .boolean)) (n : Nat) : ∀ (f : Nat) (x1 x3 x4 : Int) (hx1 : inR x1) (hx3 : inR x3) (hx4 : inR x4) (M : Mm), lp_C_holds_10 n f x1 x3 x4 M = some (r, M9) → VJ LC w X 10 3 r M9 M [(0, .ref (wa w 2)), (1, .int (i32 x1)), (2, .ref (wa w 41)), (3, .int (i32 x3)), (4, .int (i32 x4))] [] 10 := by
  intro f
  induction f with
  | zero => intro x1 x3 x4 hx1 hx3 hx4 M hF; cases hF
  | succ f ih => intro x1 x3 x4 hx1 hx3 hx4 M hF; exact wk_C_holds_10 G0 n (lp_C_holds_10 n f) ih x1 x3 x4 hx1 hx3 hx4 M hF
set_option maxHeartbeats 4000000 in
set_option maxRecDepth 100000 in
theorem ct_C_holds {w : Wd} (hij : ij LC w) (n : Nat) (x1 : Int) (hx1 : inR x1) {M : Mm} {r : Int} {M9 : Mm} (hF : f_C_holds n x1 M = some (r, M9)) : Ct LC w y_C_holds b_C_holds 10 (some .boolean) 0 0 3 [.ref (wa w 2), .int (i32 x1), .ref (wa w 41)] M r M9 := by
  refine Ct.of hij KstC (by decide +kernel) (Nat.le_of_ble_eq_true rfl) (fun X G0 => ?_)
  have G := G0.1
  show VJ LC w X 10 3 r M9 M [(0, .ref (wa w 2)), (1, .int (i32 x1)), (2, .ref (wa w 41))] [] 0
  unfold f_C_holds at hF
  refine vj_iconst G (v := 0) d_C_holds_0 rfl ?_
  refine vj_istore_n G (lv2 := [(3, .int (i32 0)), (0, .ref (wa w 2)), (1, .int (i32 x1)), (2, .ref (wa w 41))]) d_C_holds_1 rfl (by decide) rfl ?_
  refine vj_aload_n G (p9 := 1) d_C_holds_2 rfl rfl ?_
  refine gfC_C_28 G d_C_holds_3 ?_
  refine vj_iload_n G (p9 := 2) d_C_holds_6 rfl rfl ?_
  obtain ⟨c1, hF⟩ := ck_some hF
  refine vj_iald G (x := x1) lkC_35 (by decide) c1 d_C_holds_7 ?_
  refine vj_mr (fun hM2 => ?_)
  refine vj_istore G (lv2 := [(4, .int (i32 (M 35 x1.toNat))), (3, .int (i32 0)), (0, .ref (wa w 2)), (1, .int (i32 x1)), (2, .ref (wa w 41))]) d_C_holds_8 (by decide) rfl ?_
  refine vj_sub [2, 3, 4, 1, 0] rfl ?_
  exact wl_C_holds_10 G0 n  n x1 0 (M 35 x1.toNat) hx1 ic_0 (mr_a hM2 lkC_35) _ hF
set_option maxHeartbeats 4000000 in
set_option maxRecDepth 100000 in
theorem ct_U_sleeps {w : Wd} (hij : ij LC w) (n : Nat) (x1 x2 x3 x4 : Int) (hx1 : inR x1) (hx2 : inR x2) (hx3 : inR x3) (hx4 : inR x4) {M : Mm} {r : Int} {M9 : Mm} (hF : f_U_sleeps n x1 x2 x3 x4 M = some (r, M9)) : Ct LC w y_U_sleeps b_U_sleeps 6 (some .boolean) 1 29 3 [.ref (wa w 3), .int (i32 x1), .int (i32 x2), .int (i32 x3), .int (i32 x4)] M r M9 := by
  refine Ct.of hij KstC (by decide +kernel) (Nat.le_of_ble_eq_true rfl) (fun X G0 => ?_)
  have G := G0.1
  show VJ LC w X 6 3 r M9 M [(0, .ref (wa w 3)), (1, .int (i32 x1)), (2, .int (i32 x2)), (3, .int (i32 x3)), (4, .int (i32 x4))] [] 0
  unfold f_U_sleeps at hF
  refine vj_aload_n G (p9 := 0) d_U_sleeps_0 rfl rfl ?_
  refine gfC_U_11 G d_U_sleeps_1 ?_
  refine vj_iload_n G (p9 := 1) d_U_sleeps_4 rfl rfl ?_
  obtain ⟨c1, hF⟩ := ck_some hF
  refine vj_aald5 G (x := x1) lkC_38 (by decide) c1 d_U_sleeps_5 ?_
  refine vj_iconst G (v := 4) d_U_sleeps_6 rfl ?_
  refine vj_iald G (x := 4) (lkC_r110 c1) (by decide) ⟨by decide, by decide⟩ d_U_sleeps_7 ?_
  refine vj_mr (fun hM2 => ?_)
  refine vj_istore G (lv2 := [(5, .int (i32 (M (110 + x1.toNat) (4 : Int).toNat))), (0, .ref (wa w 3)), (1, .int (i32 x1)), (2, .int (i32 x2)), (3, .int (i32 x3)), (4, .int (i32 x4))]) d_U_sleeps_8 (by decide) rfl ?_
  refine vj_iload G (p9 := 0) d_U_sleeps_10 rfl ?_
  refine vj_if_ge G (tgt := 17) d_U_sleeps_12 (by decide) (mr_a hM2 (lkC_r110 c1)) (fun c3 => ?_) (fun c3 => ?_)
  · rw [if_pos c3] at hF
    refine vj_aload_n G (p9 := 1) d_U_sleeps_17 rfl rfl ?_
    refine gfC_U_25 G d_U_sleeps_18 ?_
    refine vj_iconst G (v := 0) d_U_sleeps_21 rfl ?_
    refine vj_aload_n G (p9 := 1) d_U_sleeps_22 rfl rfl ?_
    refine gfC_U_46 G d_U_sleeps_23 ?_
    refine gfC_U_110 G d_U_sleeps_26 ?_
    refine vj_iload_n G (p9 := 4) d_U_sleeps_29 rfl rfl ?_
    obtain ⟨c4, hF⟩ := ck_some hF
    refine vj_iald G (x := x3) lkC_17 (by decide) c4 d_U_sleeps_30 ?_
    refine vj_mr (fun hM5 => ?_)
    refine vj_iast G (x := 0) lkC_41 (by decide) (by decide) (by decide) ⟨by decide, by decide⟩ (mr_a hM5 lkC_17) d_U_sleeps_31 ?_
    refine vj_aload_n G (p9 := 1) d_U_sleeps_32 rfl rfl ?_
    refine gfC_U_25 G d_U_sleeps_33 ?_
    refine vj_iconst G (v := 1) d_U_sleeps_36 rfl ?_
    refine vj_iload_n G (p9 := 4) d_U_sleeps_37 rfl rfl ?_
    refine vj_iast G (x := 1) lkC_41 (by decide) (by decide) (by decide) ⟨by decide, by decide⟩ hx3 d_U_sleeps_38 ?_
    refine vj_aload_n G (p9 := 1) d_U_sleeps_39 rfl rfl ?_
    refine gfC_U_25 G d_U_sleeps_40 ?_
    refine vj_iconst G (v := 2) d_U_sleeps_43 rfl ?_
    refine vj_iload G (p9 := 5) d_U_sleeps_44 rfl ?_
    refine vj_iast G (x := 2) lkC_41 (by decide) (by decide) (by decide) ⟨by decide, by decide⟩ hx4 d_U_sleeps_46 ?_
    refine vj_aload_n G (p9 := 1) d_U_sleeps_47 rfl rfl ?_
    refine gfC_U_25 G d_U_sleeps_48 ?_
    refine vj_iconst G (v := 3) d_U_sleeps_51 rfl ?_
    refine vj_aload_n G (p9 := 1) d_U_sleeps_52 rfl rfl ?_
    refine gfC_U_46 G d_U_sleeps_53 ?_
    refine gfC_U_113 G d_U_sleeps_56 ?_
    refine vj_iload_n G (p9 := 3) d_U_sleeps_59 rfl rfl ?_
    obtain ⟨c6, hF⟩ := ck_some hF
    refine vj_iald G (x := x2) lkC_22 (by decide) c6 d_U_sleeps_60 ?_
    refine vj_mr (fun hM7 => ?_)
    refine vj_iast G (x := 3) lkC_41 (by decide) (by decide) (by decide) ⟨by decide, by decide⟩ (mr_a hM7 lkC_22) d_U_sleeps_61 ?_
    refine vj_aload_n G (p9 := 1) d_U_sleeps_62 rfl rfl ?_
    refine gfC_U_25 G d_U_sleeps_63 ?_
    refine vj_iconst G (v := 4) d_U_sleeps_66 rfl ?_
    refine vj_aload_n G (p9 := 1) d_U_sleeps_67 rfl rfl ?_
    refine gfC_U_46 G d_U_sleeps_68 ?_
    refine gfC_U_105 G d_U_sleeps_71 ?_
    refine vj_iload_n G (p9 := 3) d_U_sleeps_74 rfl rfl ?_
    obtain ⟨c8, hF⟩ := ck_some hF
    refine vj_iald G (x := x2) lkC_23 (by decide) c8 d_U_sleeps_75 ?_
    refine vj_mr (fun hM9 => ?_)
    refine vj_iast G (x := 4) lkC_41 (by decide) (by decide) (by decide) ⟨by decide, by decide⟩ (mr_a hM9 lkC_23) d_U_sleeps_76 ?_
    refine vj_aload_n G (p9 := 1) d_U_sleeps_77 rfl rfl ?_
    refine gfC_U_50 G d_U_sleeps_78 ?_
    refine vj_iload G (p9 := 0) d_U_sleeps_81 rfl ?_
    refine vj_aload_n G (p9 := 1) d_U_sleeps_83 rfl rfl ?_
    refine gfC_U_25 G d_U_sleeps_84 ?_
    obtain ⟨r10, M10, e10, hF⟩ := bnd_some hF
    refine vj_callV3 G (ct_C_holds (gx_ij G) n (M (110 + x1.toNat) (4 : Int).toNat) (mr_a hM2 (lkC_r110 c1)) e10) lkC_2 clC_8 rfl q_809 cq_C_holds rfl (by decide) (by decide) (Nat.le_of_ble_eq_true rfl) d_U_sleeps_87 rfl (fun hr10 => ?_)
    cases hF
    exact vj_zret G0 hr10 d_U_sleeps_90
  · rw [if_neg c3] at hF
    refine vj_iconst G (v := 0) d_U_sleeps_15 rfl ?_
    cases hF
    exact vj_zret G0 (Or.inl rfl) d_U_sleeps_16
set_option maxHeartbeats 4000000 in
set_option maxRecDepth 100000 in
theorem ct_C_secondOf {w : Wd} (hij : ij LC w) (n : Nat) (x1 x2 : Int) (hx1 : inR x1) (hx2 : inR x2) {M : Mm} {r : Int} {M9 : Mm} (hF : f_C_secondOf n x1 x2 M = some (r, M9)) : Ct LC w y_C_secondOf b_C_secondOf 3 (some .int) 0 0 1 [.ref (wa w 2), .int (i32 x1), .int (i32 x2)] M r M9 := by
  refine Ct.of hij KstC (by decide +kernel) (Nat.le_of_ble_eq_true rfl) (fun X G0 => ?_)
  have G := G0.1
  show VJ LC w X 3 1 r M9 M [(0, .ref (wa w 2)), (1, .int (i32 x1)), (2, .int (i32 x2))] [] 0
  unfold f_C_secondOf at hF
  refine vj_iload_n G (p9 := 1) d_C_secondOf_0 rfl rfl ?_
  refine vj_if_lt G (tgt := 11) d_C_secondOf_1 (by decide) hx1 (fun c1 => ?_) (fun c1 => ?_)
  · rw [if_pos c1] at hF
    refine vj_iload_n G (p9 := 2) d_C_secondOf_11 rfl rfl ?_
    refine vj_if_ne G (tgt := 19) d_C_secondOf_12 (by decide) hx2 (fun c2 => ?_) (fun c2 => ?_)
    · rw [if_pos c2] at hF
      refine vj_iconst G (v := 1) d_C_secondOf_19 rfl ?_
      cases hF
      exact vj_iret G0 ic_1 d_C_secondOf_20
    · rw [if_neg c2] at hF
      refine vj_iconst G (v := 2) d_C_secondOf_15 rfl ?_
      refine vj_goto G (tgt := 20) d_C_secondOf_16 (by decide) ?_
      cases hF
      exact vj_iret G0 ic_2 d_C_secondOf_20
  · rw [if_neg c1] at hF
    refine vj_aload_n G (p9 := 0) d_C_secondOf_4 rfl rfl ?_
    refine gfC_C_31 G d_C_secondOf_5 ?_
    refine vj_iload_n G (p9 := 1) d_C_secondOf_8 rfl rfl ?_
    obtain ⟨c3, hF⟩ := ck_some hF
    refine vj_iald G (x := x1) lkC_36 (by decide) c3 d_C_secondOf_9 ?_
    refine vj_mr (fun hM4 => ?_)
    cases hF
    exact vj_iret G0 (mr_a hM4 lkC_36) d_C_secondOf_10
set_option maxHeartbeats 4000000 in
set_option maxRecDepth 100000 in
theorem wk_U_weigh_118 {w : Wd} {X : Cx} {r : Int} {M9 : Mm} (G0 : Gx LC w X "WhoRules$Rule" b_U_weigh 7 2 54 (some .int)) (n : Nat) (s0 s1 : Int) (hs0 : inR s0) (hs1 : inR s1) (M : Mm) (hF : f_U_weigh_118 n s0 s1 M = some (r, M9)) : VJ LC w X 7 1 r M9 M [] [.int (i32 s1), .int (i32 s0)] 118 := by
  have G := G0.1
  unfold f_U_weigh_118 at hF
  refine vj_imul G d_U_weigh_118 ?_
  cases hF
  exact vj_iret G0 (ir_w _) d_U_weigh_119
set_option maxHeartbeats 4000000 in
set_option maxRecDepth 100000 in
theorem wk_U_weigh_88 {w : Wd} {X : Cx} {r : Int} {M9 : Mm} (G0 : Gx LC w X "WhoRules$Rule" b_U_weigh 7 2 54 (some .int)) (n : Nat) (x1 x5 s0 : Int) (hx1 : inR x1) (hx5 : inR x5) (hs0 : inB s0) (M : Mm) (hF : f_U_weigh_88 n x1 x5 s0 M = some (r, M9)) : VJ LC w X 7 1 r M9 M [(0, .ref (wa w 3)), (1, .int (i32 x1)), (5, .int (i32 x5))] [.int (i32 s0)] 88 := by
  have G := G0.1
  unfold f_U_weigh_88 at hF
  refine vj_istore G (lv2 := [(6, .int (i32 s0)), (0, .ref (wa w 3)), (1, .int (i32 x1)), (5, .int (i32 x5))]) d_U_weigh_88 (by decide) rfl ?_
  refine vj_aload_n G (p9 := 1) d_U_weigh_90 rfl rfl ?_
  refine gfC_U_46 G d_U_weigh_91 ?_
  refine gfC_U_105 G d_U_weigh_94 ?_
  refine vj_iload_n G (p9 := 2) d_U_weigh_97 rfl rfl ?_
  obtain ⟨c1, hF⟩ := ck_some hF
  refine vj_iald G (x := x1) lkC_23 (by decide) c1 d_U_weigh_98 ?_
  refine vj_mr (fun hM2 => ?_)
  refine vj_iload G (p9 := 0) d_U_weigh_99 rfl ?_
  refine vj_if_eq G (tgt := 117) d_U_weigh_101 (by decide) (ir_b hs0) (fun c3 => ?_) (fun c3 => ?_)
  · rw [if_pos c3] at hF
    refine vj_iconst G (v := 1) d_U_weigh_117 rfl ?_
    refine vj_sub [] rfl ?_
    exact wk_U_weigh_118 G0 n  (M 23 x1.toNat) 1 (mr_a hM2 lkC_23) ic_1 _ hF
  · rw [if_neg c3] at hF
    refine vj_aload_n G (p9 := 1) d_U_weigh_104 rfl rfl ?_
    refine gfC_U_50 G d_U_weigh_105 ?_
    refine vj_iload G (p9 := 3) d_U_weigh_108 rfl ?_
    refine vj_iconst G (v := 2) d_U_weigh_110 rfl ?_
    obtain ⟨r4, M4, e4, hF⟩ := bnd_some hF
    refine vj_callV1 G (ct_C_secondOf (gx_ij G) n x5 2 hx5 ic_2 e4) lkC_2 clC_8 rfl q_813 cq_C_secondOf rfl (by decide) (by decide) (Nat.le_of_ble_eq_true rfl) d_U_weigh_111 rfl (fun hr4 => ?_)
    refine vj_goto G (tgt := 118) d_U_weigh_114 (by decide) ?_
    refine vj_sub [] rfl ?_
    exact wk_U_weigh_118 G0 n  (M 23 x1.toNat) r4 (mr_a hM2 lkC_23) hr4 _ hF
set_option maxHeartbeats 4000000 in
set_option maxRecDepth 100000 in
theorem ct_U_weigh {w : Wd} (hij : ij LC w) (n : Nat) (x1 x2 x3 : Int) (hx1 : inR x1) (hx2 : inR x2) (hx3 : inR x3) {M : Mm} {r : Int} {M9 : Mm} (hF : f_U_weigh n x1 x2 x3 M = some (r, M9)) : Ct LC w y_U_weigh b_U_weigh 7 (some .int) 2 54 1 [.ref (wa w 3), .int (i32 x1), .int (i32 x2), .int (i32 x3)] M r M9 := by
  refine Ct.of hij KstC (by decide +kernel) (Nat.le_of_ble_eq_true rfl) (fun X G0 => ?_)
  have G := G0.1
  show VJ LC w X 7 1 r M9 M [(0, .ref (wa w 3)), (1, .int (i32 x1)), (2, .int (i32 x2)), (3, .int (i32 x3))] [] 0
  unfold f_U_weigh at hF
  refine vj_aload_n G (p9 := 0) d_U_weigh_0 rfl rfl ?_
  refine gfC_U_46 G d_U_weigh_1 ?_
  refine gfC_U_95 G d_U_weigh_4 ?_
  refine vj_iload_n G (p9 := 1) d_U_weigh_7 rfl rfl ?_
  obtain ⟨c1, hF⟩ := ck_some hF
  refine vj_iald G (x := x1) lkC_21 (by decide) c1 d_U_weigh_8 ?_
  refine vj_mr (fun hM2 => ?_)
  refine vj_istore G (lv2 := [(4, .int (i32 (M 21 x1.toNat))), (0, .ref (wa w 3)), (1, .int (i32 x1)), (2, .int (i32 x2)), (3, .int (i32 x3))]) d_U_weigh_9 (by decide) rfl ?_
  refine vj_iload_n G (p9 := 3) d_U_weigh_11 rfl rfl ?_
  refine vj_if_lt G (tgt := 32) d_U_weigh_12 (by decide) hx2 (fun c3 => ?_) (fun c3 => ?_)
  · rw [if_pos c3] at hF
    refine vj_iconst G (v := 0) d_U_weigh_32 rfl ?_
    cases hF
    exact vj_iret G0 ic_0 d_U_weigh_33
  · rw [if_neg c3] at hF
    refine vj_iload_n G (p9 := 3) d_U_weigh_15 rfl rfl ?_
    refine vj_iload G (p9 := 0) d_U_weigh_16 rfl ?_
    refine vj_icmp_eq G (tgt := 32) d_U_weigh_18 (by decide) hx2 (mr_a hM2 lkC_21) (fun c4 => ?_) (fun c4 => ?_)
    · rw [if_pos c4] at hF
      refine vj_iconst G (v := 0) d_U_weigh_32 rfl ?_
      cases hF
      exact vj_iret G0 ic_0 d_U_weigh_33
    · rw [if_neg c4] at hF
      refine vj_aload_n G (p9 := 1) d_U_weigh_21 rfl rfl ?_
      refine gfC_U_46 G d_U_weigh_22 ?_
      refine vj_iload_n G (p9 := 3) d_U_weigh_25 rfl rfl ?_
      obtain ⟨r5, M5, e5, hF⟩ := bnd_some hF
      refine vj_callV3 G (ct_R_isVoteless (gx_ij G) n x2 hx2 e5) lkC_1 clC_7 rfl q_801 cq_R_isVoteless rfl (by decide) (by decide) (Nat.le_of_ble_eq_true rfl) d_U_weigh_26 rfl (fun hr5 => ?_)
      refine vj_if_eq G (tgt := 34) d_U_weigh_29 (by decide) (ir_b hr5) (fun c6 => ?_) (fun c6 => ?_)
      · rw [if_pos c6] at hF
        refine vj_aload_n G (p9 := 1) d_U_weigh_34 rfl rfl ?_
        refine vj_iload G (p9 := 0) d_U_weigh_35 rfl ?_
        refine vj_iload_n G (p9 := 2) d_U_weigh_37 rfl rfl ?_
        refine vj_iload_n G (p9 := 3) d_U_weigh_38 rfl rfl ?_
        refine vj_aload_n G (p9 := 1) d_U_weigh_39 rfl rfl ?_
        refine gfC_U_54 G d_U_weigh_40 ?_
        refine vj_mr (fun hM7 => ?_)
        refine vj_iload_n G (p9 := 4) d_U_weigh_43 rfl rfl ?_
        refine vj_isub G d_U_weigh_44 ?_
        obtain ⟨r8, M8, e8, hF⟩ := bnd_some hF
        refine vj_callV3 G (ct_U_sleeps (gx_ij G) n (M 21 x1.toNat) x1 x2 (w32 ((M5 3 2) - x3)) (mr_a hM2 lkC_21) hx1 hx2 (ir_w _) e8) lkC_3 clC_9 rfl q_805 cq_U_sleeps rfl (by decide) (by decide) (Nat.le_of_ble_eq_true rfl) d_U_weigh_45 rfl (fun hr8 => ?_)
        refine vj_if_eq G (tgt := 53) d_U_weigh_48 (by decide) (ir_b hr8) (fun c9 => ?_) (fun c9 => ?_)
        · rw [if_pos c9] at hF
          refine vj_aload_n G (p9 := 1) d_U_weigh_53 rfl rfl ?_
          refine gfC_U_11 G d_U_weigh_54 ?_
          refine vj_iload G (p9 := 0) d_U_weigh_57 rfl ?_
          obtain ⟨c10, hF⟩ := ck_some hF
          refine vj_aald5 G (x := (M 21 x1.toNat)) lkC_38 (by decide) c10 d_U_weigh_59 ?_
          refine vj_iconst G (v := 2) d_U_weigh_60 rfl ?_
          refine vj_iald G (x := 2) (lkC_r110 c10) (by decide) ⟨by decide, by decide⟩ d_U_weigh_61 ?_
          refine vj_mr (fun hM11 => ?_)
          refine vj_istore G (lv2 := [(5, .int (i32 (M8 (110 + (M 21 x1.toNat).toNat) (2 : Int).toNat))), (4, .int (i32 (M 21 x1.toNat))), (0, .ref (wa w 3)), (1, .int (i32 x1)), (2, .int (i32 x2)), (3, .int (i32 x3))]) d_U_weigh_62 (by decide) rfl ?_
          refine vj_aload_n G (p9 := 2) d_U_weigh_64 rfl rfl ?_
          refine gfC_U_54 G d_U_weigh_65 ?_
          refine vj_iload_n G (p9 := 5) d_U_weigh_68 rfl rfl ?_
          refine vj_isub G d_U_weigh_69 ?_
          refine vj_aload_n G (p9 := 2) d_U_weigh_70 rfl rfl ?_
          refine gfC_U_50 G d_U_weigh_71 ?_
          refine vj_iload G (p9 := 0) d_U_weigh_74 rfl ?_
          refine vj_iconst G (v := 2) d_U_weigh_76 rfl ?_
          obtain ⟨r12, M12, e12, hF⟩ := bnd_some hF
          refine vj_callV1 G (ct_C_firstOf (gx_ij G) n (M8 (110 + (M 21 x1.toNat).toNat) (2 : Int).toNat) 2 (mr_a hM11 (lkC_r110 c10)) ic_2 e12) lkC_2 clC_8 rfl q_787 cq_C_firstOf rfl (by decide) (by decide) (Nat.le_of_ble_eq_true rfl) d_U_weigh_77 rfl (fun hr12 => ?_)
          refine vj_icmp_lt G (tgt := 87) d_U_weigh_80 (by decide) (ir_w _) hr12 (fun c13 => ?_) (fun c13 => ?_)
          · rw [if_pos c13] at hF
            refine vj_iconst G (v := 0) d_U_weigh_87 rfl ?_
            refine vj_sub [2, 3, 0] rfl ?_
            exact wk_U_weigh_88 G0 n  x1 (M8 (110 + (M 21 x1.toNat).toNat) (2 : Int).toNat) 0 hx1 (mr_a hM11 (lkC_r110 c10)) (Or.inl rfl) _ hF
          · rw [if_neg c13] at hF
            refine vj_iconst G (v := 1) d_U_weigh_83 rfl ?_
            refine vj_goto G (tgt := 88) d_U_weigh_84 (by decide) ?_
            refine vj_sub [2, 3, 0] rfl ?_
            exact wk_U_weigh_88 G0 n  x1 (M8 (110 + (M 21 x1.toNat).toNat) (2 : Int).toNat) 1 hx1 (mr_a hM11 (lkC_r110 c10)) (Or.inr rfl) _ hF
        · rw [if_neg c9] at hF
          refine vj_iconst G (v := 0) d_U_weigh_51 rfl ?_
          cases hF
          exact vj_iret G0 ic_0 d_U_weigh_52
      · rw [if_neg c6] at hF
        refine vj_iconst G (v := 0) d_U_weigh_32 rfl ?_
        cases hF
        exact vj_iret G0 ic_0 d_U_weigh_33
set_option maxHeartbeats 4000000 in
set_option maxRecDepth 100000 in
theorem ct_U_restore {w : Wd} (hij : ij LC w) (n : Nat) (x1 : Int) (hx1 : inR x1) {M : Mm} {r : Int} {M9 : Mm} (hF : f_U_restore n x1 M = some (r, M9)) : Ct LC w y_U_restore b_U_restore 2 none 3 80 0 [.ref (wa w 3), .int (i32 x1)] M r M9 := by
  refine Ct.of hij KstC (by decide +kernel) (Nat.le_of_ble_eq_true rfl) (fun X G0 => ?_)
  have G := G0.1
  show VJ LC w X 2 0 r M9 M [(0, .ref (wa w 3)), (1, .int (i32 x1))] [] 0
  unfold f_U_restore at hF
  refine vj_aload_n G (p9 := 0) d_U_restore_0 rfl rfl ?_
  refine gfC_U_16 G d_U_restore_1 ?_
  refine vj_iload_n G (p9 := 1) d_U_restore_4 rfl rfl ?_
  refine vj_aload_n G (p9 := 0) d_U_restore_5 rfl rfl ?_
  refine gfC_U_46 G d_U_restore_6 ?_
  refine gfC_U_88 G d_U_restore_9 ?_
  refine vj_iload_n G (p9 := 1) d_U_restore_12 rfl rfl ?_
  obtain ⟨c1, hF⟩ := ck_some hF
  refine vj_iald G (x := x1) lkC_25 (by decide) c1 d_U_restore_13 ?_
  refine vj_mr (fun hM2 => ?_)
  obtain ⟨c3, hF⟩ := ck_some hF
  refine vj_iast G (x := x1) lkC_39 (by decide) (by decide) (by decide) c3 (mr_a hM2 lkC_25) d_U_restore_14 ?_
  refine vj_aload_n G (p9 := 0) d_U_restore_15 rfl rfl ?_
  refine gfC_U_20 G d_U_restore_16 ?_
  refine vj_iload_n G (p9 := 1) d_U_restore_19 rfl rfl ?_
  refine vj_aload_n G (p9 := 0) d_U_restore_20 rfl rfl ?_
  refine vj_iload_n G (p9 := 1) d_U_restore_21 rfl rfl ?_
  refine vj_aload_n G (p9 := 0) d_U_restore_22 rfl rfl ?_
  refine gfC_U_16 G d_U_restore_23 ?_
  refine vj_iload_n G (p9 := 1) d_U_restore_26 rfl rfl ?_
  obtain ⟨c4, hF⟩ := ck_some hF
  refine vj_iald G (x := x1) lkC_39 (by decide) c4 d_U_restore_27 ?_
  refine vj_mr (fun hM5 => ?_)
  refine vj_aload_n G (p9 := 0) d_U_restore_28 rfl rfl ?_
  refine gfC_U_46 G d_U_restore_29 ?_
  refine gfC_U_89 G d_U_restore_32 ?_
  refine vj_iload_n G (p9 := 1) d_U_restore_35 rfl rfl ?_
  obtain ⟨c6, hF⟩ := ck_some hF
  refine vj_iald G (x := x1) lkC_26 (by decide) c6 d_U_restore_36 ?_
  obtain ⟨r7, M7, e7, hF⟩ := bnd_some hF
  refine vj_callV1 G (ct_U_weigh (gx_ij G) n x1 ((mset M 39 x1.toNat (M 25 x1.toNat)) 39 x1.toNat) ((mset M 39 x1.toNat (M 25 x1.toNat)) 26 x1.toNat) hx1 (mr_a hM5 lkC_39) (mr_a hM5 lkC_26) e7) lkC_3 clC_9 rfl q_797 cq_U_weigh rfl (by decide) (by decide) (Nat.le_of_ble_eq_true rfl) d_U_restore_37 rfl (fun hr7 => ?_)
  obtain ⟨c8, hF⟩ := ck_some hF
  refine vj_iast G (x := x1) lkC_40 (by decide) (by decide) (by decide) c8 hr7 d_U_restore_40 ?_
  cases hF
  exact vj_vret G0 d_U_restore_41
set_option maxHeartbeats 4000000 in
set_option maxRecDepth 100000 in
theorem wk_U_look_128 {w : Wd} {X : Cx} {r : Int} {M9 : Mm} (G0 : Gx LC w X "WhoRules$Rule" b_U_look 5 4 101 none) (n : Nat) (k128 : Int → Mm → Rr) (hk128 : ∀ (x2 : Int) (hx2 : inR x2) (M : Mm), k128 x2 M = some (r, M9) → VJ LC w X 5 0 r M9 M [(0, .ref (wa w 3)), (2, .int (i32 x2))] [] 128) (x2 : Int) (hx2 : inR x2) (M : Mm) (hF : f_U_look_128 n k128 x2 M = some (r, M9)) : VJ LC w X 5 0 r M9 M [(0, .ref (wa w 3)), (2, .int (i32 x2))] [] 128 := by
  have G := G0.1
  unfold f_U_look_128 at hF
  refine vj_iload_n G (p9 := 1) d_U_look_128 rfl rfl ?_
  refine vj_aload_n G (p9 := 0) d_U_look_129 rfl rfl ?_
  refine gfC_U_46 G d_U_look_130 ?_
  refine gfC_U_82 G d_U_look_133 ?_
  refine vj_mr (fun hM1 => ?_)
  refine vj_icmp_ge G (tgt := 150) d_U_look_136 (by decide) hx2 (mr_o hM1 lkC_1 flC_7_4) (fun c2 => ?_) (fun c2 => ?_)
  · rw [if_pos c2] at hF
    cases hF
    exact vj_vret G0 d_U_look_150
  · rw [if_neg c2] at hF
    refine vj_aload_n G (p9 := 0) d_U_look_139 rfl rfl ?_
    refine vj_iload_n G (p9 := 1) d_U_look_140 rfl rfl ?_
    obtain ⟨r3, M3, e3, hF⟩ := bnd_some hF
    refine vj_callV0 G (ct_U_restore (gx_ij G) n x2 hx2 e3) lkC_3 clC_9 rfl q_793 cq_U_restore rfl (by decide) (by decide) (Nat.le_of_ble_eq_true rfl) d_U_look_141 rfl (fun hr3 => ?_)
    refine vj_iinc G (p9 := 1) (n := 1) (lv2 := [(2, .int (i32 (w32 (x2 + 1)))), (0, .ref (wa w 3))]) d_U_look_144 rfl (by decide) rfl ?_
    refine vj_goto G (tgt := 128) d_U_look_147 (by decide) ?_
    refine vj_sub [1, 0] rfl ?_
    exact hk128 (w32 (x2 + 1)) (ir_w _) _ hF
set_option maxHeartbeats 4000000 in
set_option maxRecDepth 100000 in
theorem wl_U_look_128 {w : Wd} {X : Cx} {r : Int} {M9 : Mm} (G0 : Gx LC w X "WhoRules$Rule" b_U_look 5 4 101 none) (n : Nat) : ∀ (f : Nat) (x2 : Int) (hx2 : inR x2) (M : Mm), lp_U_look_128 n f x2 M = some (r, M9) → VJ LC w X 5 0 r M9 M [(0, .ref (wa w 3)), (2, .int (i32 x2))] [] 128 := by
  intro f
  induction f with
  | zero => intro x2 hx2 M hF; cases hF
  | succ f ih => intro x2 hx2 M hF; exact wk_U_look_128 G0 n (lp_U_look_128 n f) ih x2 hx2 M hF
set_option maxHeartbeats 4000000 in
set_option maxRecDepth 100000 in
theorem wk_U_look_108 {w : Wd} {X : Cx} {r : Int} {M9 : Mm} (G0 : Gx LC w X "WhoRules$Rule" b_U_look 5 4 101 none) (n : Nat) (k7 : Int → Mm → Rr) (hk7 : ∀ (x2 : Int) (hx2 : inR x2) (M : Mm), k7 x2 M = some (r, M9) → VJ LC w X 5 0 r M9 M [(0, .ref (wa w 3)), (2, .int (i32 x2))] [] 7) (x2 s1 s2 : Int) (hx2 : inR x2) (hs1 : inR s1) (hs2 : inR s2) (M : Mm) (hF : f_U_look_108 n k7 x2 s1 s2 M = some (r, M9)) : VJ LC w X 5 0 r M9 M [(0, .ref (wa w 3)), (2, .int (i32 x2))] [.int (i32 s2), .int (i32 s1), .ref (wa w 43)] 108 := by
  have G := G0.1
  unfold f_U_look_108 at hF
  obtain ⟨c1, hF⟩ := ck_some hF
  refine vj_iast G (x := s1) lkC_43 (by decide) (by decide) (by decide) c1 hs2 d_U_look_108 ?_
  refine vj_iinc G (p9 := 1) (n := 1) (lv2 := [(2, .int (i32 (w32 (x2 + 1)))), (0, .ref (wa w 3))]) d_U_look_109 rfl (by decide) rfl ?_
  refine vj_goto G (tgt := 7) d_U_look_112 (by decide) ?_
  refine vj_sub [1, 0] rfl ?_
  exact hk7 (w32 (x2 + 1)) (ir_w _) _ hF
set_option maxHeartbeats 4000000 in
set_option maxRecDepth 100000 in
theorem wk_U_look_31 {w : Wd} {X : Cx} {r : Int} {M9 : Mm} (G0 : Gx LC w X "WhoRules$Rule" b_U_look 5 4 101 none) (n : Nat) (k7 : Int → Mm → Rr) (hk7 : ∀ (x2 : Int) (hx2 : inR x2) (M : Mm), k7 x2 M = some (r, M9) → VJ LC w X 5 0 r M9 M [(0, .ref (wa w 3)), (2, .int (i32 x2))] [] 7) (k31 : Int → Int → Int → Mm → Rr) (hk31 : ∀ (x2 x3 x4 : Int) (hx2 : inR x2) (hx3 : inR x3) (hx4 : inR x4) (M : Mm), k31 x2 x3 x4 M = some (r, M9) → VJ LC w X 5 0 r M9 M [(0, .ref (wa w 3)), (2, .int (i32 x2)), (3, .int (i32 x3)), (4, .int (i32 x4))] [] 31) (x2 x3 x4 : Int) (hx2 : inR x2) (hx3 : inR x3) (hx4 : inR x4) (M : Mm) (hF : f_U_look_31 n k7 k31 x2 x3 x4 M = some (r, M9)) : VJ LC w X 5 0 r M9 M [(0, .ref (wa w 3)), (2, .int (i32 x2)), (3, .int (i32 x3)), (4, .int (i32 x4))] [] 31 := by
  have G := G0.1
  unfold f_U_look_31 at hF
  refine vj_iload G (p9 := 3) d_U_look_31 rfl ?_
  refine vj_iconst G (v := 5) d_U_look_33 rfl ?_
  refine vj_icmp_ge G (tgt := 66) d_U_look_34 (by decide) hx4 ic_5 (fun c1 => ?_) (fun c1 => ?_)
  · rw [if_pos c1] at hF
    refine vj_aload_n G (p9 := 0) d_U_look_66 rfl rfl ?_
    refine gfC_U_50 G d_U_look_67 ?_
    refine vj_aload_n G (p9 := 0) d_U_look_70 rfl rfl ?_
    refine gfC_U_11 G d_U_look_71 ?_
    refine vj_iload_n G (p9 := 2) d_U_look_74 rfl rfl ?_
    obtain ⟨c2, hF⟩ := ck_some hF
    refine vj_aald5 G (x := x3) lkC_38 (by decide) c2 d_U_look_75 ?_
    refine vj_iconst G (v := 3) d_U_look_76 rfl ?_
    refine vj_iald G (x := 3) (lkC_r110 c2) (by decide) ⟨by decide, by decide⟩ d_U_look_77 ?_
    refine vj_mr (fun hM3 => ?_)
    refine vj_iconst G (v := 3) d_U_look_78 rfl ?_
    obtain ⟨r4, M4, e4, hF⟩ := bnd_some hF
    refine vj_callV1 G (ct_C_firstOf (gx_ij G) n (M (110 + x3.toNat) (3 : Int).toNat) 3 (mr_a hM3 (lkC_r110 c2)) ic_3 e4) lkC_2 clC_8 rfl q_787 cq_C_firstOf rfl (by decide) (by decide) (Nat.le_of_ble_eq_true rfl) d_U_look_79 rfl (fun hr4 => ?_)
    refine vj_istore G (lv2 := [(4, .int (i32 r4)), (0, .ref (wa w 3)), (2, .int (i32 x2)), (3, .int (i32 x3))]) d_U_look_82 (by decide) rfl ?_
    refine vj_aload_n G (p9 := 1) d_U_look_84 rfl rfl ?_
    refine gfC_U_31 G d_U_look_85 ?_
    refine vj_iload_n G (p9 := 3) d_U_look_88 rfl rfl ?_
    refine vj_aload_n G (p9 := 1) d_U_look_89 rfl rfl ?_
    refine gfC_U_46 G d_U_look_90 ?_
    refine vj_iload G (p9 := 0) d_U_look_93 rfl ?_
    obtain ⟨r5, M5, e5, hF⟩ := bnd_some hF
    refine vj_callV3 G (ct_R_isHolder (gx_ij G) n r4 hr4 e5) lkC_1 clC_7 rfl q_791 cq_R_isHolder rfl (by decide) (by decide) (Nat.le_of_ble_eq_true rfl) d_U_look_95 rfl (fun hr5 => ?_)
    refine vj_if_eq G (tgt := 106) d_U_look_98 (by decide) (ir_b hr5) (fun c6 => ?_) (fun c6 => ?_)
    · rw [if_pos c6] at hF
      refine vj_bipush G (v := (-5)) d_U_look_106 rfl ?_
      refine vj_sub [1, 2] rfl ?_
      exact wk_U_look_108 G0 n k7 hk7 x2 x3 (-5) hx2 hx3 ic_m5 _ hF
    · rw [if_neg c6] at hF
      refine vj_iload G (p9 := 0) d_U_look_101 rfl ?_
      refine vj_goto G (tgt := 108) d_U_look_103 (by decide) ?_
      refine vj_sub [1, 2] rfl ?_
      exact wk_U_look_108 G0 n k7 hk7 x2 x3 r4 hx2 hx3 hr4 _ hF
  · rw [if_neg c1] at hF
    refine vj_aload_n G (p9 := 0) d_U_look_37 rfl rfl ?_
    refine gfC_U_11 G d_U_look_38 ?_
    refine vj_iload_n G (p9 := 2) d_U_look_41 rfl rfl ?_
    obtain ⟨c7, hF⟩ := ck_some hF
    refine vj_aald5 G (x := x3) lkC_38 (by decide) c7 d_U_look_42 ?_
    refine vj_iload G (p9 := 3) d_U_look_43 rfl ?_
    refine vj_aload_n G (p9 := 0) d_U_look_45 rfl rfl ?_
    refine gfC_U_50 G d_U_look_46 ?_
    refine vj_iload_n G (p9 := 2) d_U_look_49 rfl rfl ?_
    refine vj_iload G (p9 := 3) d_U_look_50 rfl ?_
    refine vj_aload_n G (p9 := 0) d_U_look_52 rfl rfl ?_
    refine gfC_U_54 G d_U_look_53 ?_
    refine vj_mr (fun hM8 => ?_)
    obtain ⟨r9, M9, e9, hF⟩ := bnd_some hF
    refine vj_callV1 G (ct_C_inForce (gx_ij G) n x3 x4 (M 3 2) hx3 hx4 (mr_o hM8 lkC_3 flC_9_2) e9) lkC_2 clC_8 rfl q_779 cq_C_inForce rfl (by decide) (by decide) (Nat.le_of_ble_eq_true rfl) d_U_look_56 rfl (fun hr9 => ?_)
    obtain ⟨c10, hF⟩ := ck_some hF
    refine vj_iast G (x := x4) (lkC_r110 c7) (by decide) (k9_110 c7) (kh_110 c7) c10 hr9 d_U_look_59 ?_
    refine vj_iinc G (p9 := 3) (n := 1) (lv2 := [(4, .int (i32 (w32 (x4 + 1)))), (0, .ref (wa w 3)), (2, .int (i32 x2)), (3, .int (i32 x3))]) d_U_look_60 rfl (by decide) rfl ?_
    refine vj_goto G (tgt := 31) d_U_look_63 (by decide) ?_
    refine vj_sub [1, 2, 3, 0] rfl ?_
    exact hk31 x2 x3 (w32 (x4 + 1)) hx2 hx3 (ir_w _) _ hF
set_option maxHeartbeats 4000000 in
set_option maxRecDepth 100000 in
theorem wl_U_look_31 {w : Wd} {X : Cx} {r : Int} {M9 : Mm} (G0 : Gx LC w X "WhoRules$Rule" b_U_look 5 4 101 none) (n : Nat) (k7 : Int → Mm → Rr) (hk7 : ∀ (x2 : Int) (hx2 : inR x2) (M : Mm), k7 x2 M = some (r, M9) → VJ LC w X 5 0 r M9 M [(0, .ref (wa w 3)), (2, .int (i32 x2))] [] 7) : ∀ (f : Nat) (x2 x3 x4 : Int) (hx2 : inR x2) (hx3 : inR x3) (hx4 : inR x4) (M : Mm), lp_U_look_31 n k7 f x2 x3 x4 M = some (r, M9) → VJ LC w X 5 0 r M9 M [(0, .ref (wa w 3)), (2, .int (i32 x2)), (3, .int (i32 x3)), (4, .int (i32 x4))] [] 31 := by
  intro f
  induction f with
  | zero => intro x2 x3 x4 hx2 hx3 hx4 M hF; cases hF
  | succ f ih => intro x2 x3 x4 hx2 hx3 hx4 M hF; exact wk_U_look_31 G0 n k7 hk7 (lp_U_look_31 n k7 f) ih x2 x3 x4 hx2 hx3 hx4 M hF
set_option maxHeartbeats 4000000 in
set_option maxRecDepth 100000 in
theorem wk_U_look_7 {w : Wd} {X : Cx} {r : Int} {M9 : Mm} (G0 : Gx LC w X "WhoRules$Rule" b_U_look 5 4 101 none) (n : Nat) (k7 : Int → Mm → Rr) (hk7 : ∀ (x2 : Int) (hx2 : inR x2) (M : Mm), k7 x2 M = some (r, M9) → VJ LC w X 5 0 r M9 M [(0, .ref (wa w 3)), (2, .int (i32 x2))] [] 7) (x2 : Int) (hx2 : inR x2) (M : Mm) (hF : f_U_look_7 n k7 x2 M = some (r, M9)) : VJ LC w X 5 0 r M9 M [(0, .ref (wa w 3)), (2, .int (i32 x2))] [] 7 := by
  have G := G0.1
  unfold f_U_look_7 at hF
  refine vj_iload_n G (p9 := 1) d_U_look_7 rfl rfl ?_
  refine vj_aload_n G (p9 := 0) d_U_look_8 rfl rfl ?_
  refine gfC_U_46 G d_U_look_9 ?_
  refine gfC_U_58 G d_U_look_12 ?_
  refine vj_mr (fun hM1 => ?_)
  refine vj_icmp_ge G (tgt := 115) d_U_look_15 (by decide) hx2 (mr_o hM1 lkC_1 flC_7_2) (fun c2 => ?_) (fun c2 => ?_)
  · rw [if_pos c2] at hF
    refine vj_aload_n G (p9 := 0) d_U_look_115 rfl rfl ?_
    refine gfC_U_46 G d_U_look_116 ?_
    refine vj_aload_n G (p9 := 0) d_U_look_119 rfl rfl ?_
    refine gfC_U_54 G d_U_look_120 ?_
    refine vj_mr (fun hM3 => ?_)
    obtain ⟨r4, M4, e4, hF⟩ := bnd_some hF
    refine vj_callV0 G (ct_R_lookAt (gx_ij G) n (M 3 2) (mr_o hM3 lkC_3 flC_9_2) e4) lkC_1 clC_7 rfl q_792 cq_R_lookAt rfl (by decide) (by decide) (Nat.le_of_ble_eq_true rfl) d_U_look_123 rfl (fun hr4 => ?_)
    refine vj_iconst G (v := 0) d_U_look_126 rfl ?_
    refine vj_istore_n G (lv2 := [(2, .int (i32 0)), (0, .ref (wa w 3))]) d_U_look_127 rfl (by decide) rfl ?_
    refine vj_sub [1, 0] rfl ?_
    exact wl_U_look_128 G0 n  n 0 ic_0 _ hF
  · rw [if_neg c2] at hF
    refine vj_aload_n G (p9 := 0) d_U_look_18 rfl rfl ?_
    refine gfC_U_46 G d_U_look_19 ?_
    refine gfC_U_63 G d_U_look_22 ?_
    refine vj_iload_n G (p9 := 1) d_U_look_25 rfl rfl ?_
    obtain ⟨c5, hF⟩ := ck_some hF
    refine vj_iald G (x := x2) lkC_19 (by decide) c5 d_U_look_26 ?_
    refine vj_mr (fun hM6 => ?_)
    refine vj_istore_n G (lv2 := [(3, .int (i32 (M 19 x2.toNat))), (0, .ref (wa w 3)), (2, .int (i32 x2))]) d_U_look_27 rfl (by decide) rfl ?_
    refine vj_iconst G (v := 0) d_U_look_28 rfl ?_
    refine vj_istore G (lv2 := [(4, .int (i32 0)), (3, .int (i32 (M 19 x2.toNat))), (0, .ref (wa w 3)), (2, .int (i32 x2))]) d_U_look_29 (by decide) rfl ?_
    refine vj_sub [2, 3, 1, 0] rfl ?_
    exact wl_U_look_31 G0 n k7 hk7 n x2 (M 19 x2.toNat) 0 hx2 (mr_a hM6 lkC_19) ic_0 _ hF
set_option maxHeartbeats 4000000 in
set_option maxRecDepth 100000 in
theorem wl_U_look_7 {w : Wd} {X : Cx} {r : Int} {M9 : Mm} (G0 : Gx LC w X "WhoRules$Rule" b_U_look 5 4 101 none) (n : Nat) : ∀ (f : Nat) (x2 : Int) (hx2 : inR x2) (M : Mm), lp_U_look_7 n f x2 M = some (r, M9) → VJ LC w X 5 0 r M9 M [(0, .ref (wa w 3)), (2, .int (i32 x2))] [] 7 := by
  intro f
  induction f with
  | zero => intro x2 hx2 M hF; cases hF
  | succ f ih => intro x2 hx2 M hF; exact wk_U_look_7 G0 n (lp_U_look_7 n f) ih x2 hx2 M hF
set_option maxHeartbeats 4000000 in
set_option maxRecDepth 100000 in
theorem ct_U_look {w : Wd} (hij : ij LC w) (n : Nat) (x1 : Int) (hx1 : inR x1) {M : Mm} {r : Int} {M9 : Mm} (hF : f_U_look n x1 M = some (r, M9)) : Ct LC w y_U_look b_U_look 5 none 4 101 0 [.ref (wa w 3), .int (i32 x1)] M r M9 := by
  refine Ct.of hij KstC (by decide +kernel) (Nat.le_of_ble_eq_true rfl) (fun X G0 => ?_)
  have G := G0.1
  show VJ LC w X 5 0 r M9 M [(0, .ref (wa w 3)), (1, .int (i32 x1))] [] 0
  unfold f_U_look at hF
  refine vj_aload_n G (p9 := 0) d_U_look_0 rfl rfl ?_
  refine vj_iload_n G (p9 := 1) d_U_look_1 rfl rfl ?_
  refine pfC_U_54 G hx1 d_U_look_2 ?_
  refine vj_iconst G (v := 0) d_U_look_5 rfl ?_
  refine vj_istore_n G (lv2 := [(2, .int (i32 0)), (0, .ref (wa w 3)), (1, .int (i32 x1))]) d_U_look_6 rfl (by decide) rfl ?_
  refine vj_sub [1, 0] rfl ?_
  exact wl_U_look_7 G0 n  n 0 ic_0 _ hF
set_option maxHeartbeats 4000000 in
set_option maxRecDepth 100000 in
theorem wk_U_sleepsNow_42 {w : Wd} {X : Cx} {r : Int} {M9 : Mm} (G0 : Gx LC w X "WhoRules$Rule" b_U_sleepsNow 4 2 54 (some .int)) (n : Nat) (M : Mm) (hF : f_U_sleepsNow_42 n  M = some (r, M9)) : VJ LC w X 4 1 r M9 M [] [] 42 := by
  have G := G0.1
  unfold f_U_sleepsNow_42 at hF
  refine vj_iconst G (v := 0) d_U_sleepsNow_42 rfl ?_
  cases hF
  exact vj_iret G0 ic_0 d_U_sleepsNow_43
set_option maxHeartbeats 4000000 in
set_option maxRecDepth 100000 in
theorem ct_U_sleepsNow {w : Wd} (hij : ij LC w) (n : Nat) (x1 x2 : Int) (hx1 : inR x1) (hx2 : inR x2) {M : Mm} {r : Int} {M9 : Mm} (hF : f_U_sleepsNow n x1 x2 M = some (r, M9)) : Ct LC w y_U_sleepsNow b_U_sleepsNow 4 (some .int) 2 54 1 [.ref (wa w 3), .int (i32 x1), .int (i32 x2)] M r M9 := by
  refine Ct.of hij KstC (by decide +kernel) (Nat.le_of_ble_eq_true rfl) (fun X G0 => ?_)
  have G := G0.1
  show VJ LC w X 4 1 r M9 M [(0, .ref (wa w 3)), (1, .int (i32 x1)), (2, .int (i32 x2))] [] 0
  unfold f_U_sleepsNow at hF
  refine vj_aload_n G (p9 := 0) d_U_sleepsNow_0 rfl rfl ?_
  refine gfC_U_46 G d_U_sleepsNow_1 ?_
  refine gfC_U_88 G d_U_sleepsNow_4 ?_
  refine vj_iload_n G (p9 := 2) d_U_sleepsNow_7 rfl rfl ?_
  obtain ⟨c1, hF⟩ := ck_some hF
  refine vj_iald G (x := x2) lkC_25 (by decide) c1 d_U_sleepsNow_8 ?_
  refine vj_mr (fun hM2 => ?_)
  refine vj_istore_n G (lv2 := [(3, .int (i32 (M 25 x2.toNat))), (0, .ref (wa w 3)), (1, .int (i32 x1)), (2, .int (i32 x2))]) d_U_sleepsNow_9 rfl (by decide) rfl ?_
  refine vj_iload_n G (p9 := 0) d_U_sleepsNow_10 rfl rfl ?_
  refine vj_if_lt G (tgt := 42) d_U_sleepsNow_11 (by decide) (mr_a hM2 lkC_25) (fun c3 => ?_) (fun c3 => ?_)
  · rw [if_pos c3] at hF
    refine vj_sub [] rfl ?_
    exact wk_U_sleepsNow_42 G0 n    _ hF
  · rw [if_neg c3] at hF
    refine vj_aload_n G (p9 := 1) d_U_sleepsNow_14 rfl rfl ?_
    refine vj_iload_n G (p9 := 2) d_U_sleepsNow_15 rfl rfl ?_
    refine vj_iload_n G (p9 := 3) d_U_sleepsNow_16 rfl rfl ?_
    refine vj_iload_n G (p9 := 0) d_U_sleepsNow_17 rfl rfl ?_
    refine vj_aload_n G (p9 := 1) d_U_sleepsNow_18 rfl rfl ?_
    refine gfC_U_54 G d_U_sleepsNow_19 ?_
    refine vj_mr (fun hM4 => ?_)
    refine vj_aload_n G (p9 := 1) d_U_sleepsNow_22 rfl rfl ?_
    refine gfC_U_46 G d_U_sleepsNow_23 ?_
    refine gfC_U_89 G d_U_sleepsNow_26 ?_
    refine vj_iload_n G (p9 := 3) d_U_sleepsNow_29 rfl rfl ?_
    obtain ⟨c5, hF⟩ := ck_some hF
    refine vj_iald G (x := x2) lkC_26 (by decide) c5 d_U_sleepsNow_30 ?_
    refine vj_isub G d_U_sleepsNow_31 ?_
    obtain ⟨r6, M6, e6, hF⟩ := bnd_some hF
    refine vj_callV3 G (ct_U_sleeps (gx_ij G) n x1 x2 (M 25 x2.toNat) (w32 ((M 3 2) - (M 26 x2.toNat))) hx1 hx2 (mr_a hM2 lkC_25) (ir_w _) e6) lkC_3 clC_9 rfl q_805 cq_U_sleeps rfl (by decide) (by decide) (Nat.le_of_ble_eq_true rfl) d_U_sleepsNow_32 rfl (fun hr6 => ?_)
    refine vj_if_eq G (tgt := 42) d_U_sleepsNow_35 (by decide) (ir_b hr6) (fun c7 => ?_) (fun c7 => ?_)
    · rw [if_pos c7] at hF
      refine vj_sub [] rfl ?_
      exact wk_U_sleepsNow_42 G0 n    _ hF
    · rw [if_neg c7] at hF
      refine vj_iconst G (v := 1) d_U_sleepsNow_38 rfl ?_
      refine vj_goto G (tgt := 43) d_U_sleepsNow_39 (by decide) ?_
      cases hF
      exact vj_iret G0 ic_1 d_U_sleepsNow_43
set_option maxHeartbeats 4000000 in
set_option maxRecDepth 100000 in
theorem wk_C_told_16 {w : Wd} {X : Cx} {r : Int} {M9 : Mm} (G0 : Gx LC w X "WhoRules$Charters" b_C_told 4 1 22 (some .int)) (n : Nat) (x1 x2 x3 : Int) (hx1 : inR x1) (hx2 : inR x2) (hx3 : inR x3) (M : Mm) (hF : f_C_told_16 n x1 x2 x3 M = some (r, M9)) : VJ LC w X 4 1 r M9 M [(0, .ref (wa w 2)), (1, .int (i32 x1)), (2, .int (i32 x2)), (3, .int (i32 x3))] [] 16 := by
  have G := G0.1
  unfold f_C_told_16 at hF
  refine vj_sipush G (v := 1000) d_C_told_16 rfl ?_
  refine vj_iload_n G (p9 := 3) d_C_told_19 rfl rfl ?_
  refine vj_imul G d_C_told_20 ?_
  refine vj_aload_n G (p9 := 0) d_C_told_21 rfl rfl ?_
  refine vj_iload_n G (p9 := 1) d_C_told_22 rfl rfl ?_
  refine vj_iload_n G (p9 := 2) d_C_told_23 rfl rfl ?_
  obtain ⟨r1, M1, e1, hF⟩ := bnd_some hF
  refine vj_callV1 G (ct_C_secondOf (gx_ij G) n x1 x2 hx1 hx2 e1) lkC_2 clC_8 rfl q_826 cq_C_secondOf rfl (by decide) (by decide) (Nat.le_of_ble_eq_true rfl) d_C_told_24 rfl (fun hr1 => ?_)
  refine vj_iadd G d_C_told_27 ?_
  refine vj_goto G (tgt := 32) d_C_told_28 (by decide) ?_
  cases hF
  exact vj_iret G0 (ir_w _) d_C_told_32
set_option maxHeartbeats 4000000 in
set_option maxRecDepth 100000 in
theorem ct_C_told {w : Wd} (hij : ij LC w) (n : Nat) (x1 x2 : Int) (hx1 : inR x1) (hx2 : inR x2) {M : Mm} {r : Int} {M9 : Mm} (hF : f_C_told n x1 x2 M = some (r, M9)) : Ct LC w y_C_told b_C_told 4 (some .int) 1 22 1 [.ref (wa w 2), .int (i32 x1), .int (i32 x2)] M r M9 := by
  refine Ct.of hij KstC (by decide +kernel) (Nat.le_of_ble_eq_true rfl) (fun X G0 => ?_)
  have G := G0.1
  show VJ LC w X 4 1 r M9 M [(0, .ref (wa w 2)), (1, .int (i32 x1)), (2, .int (i32 x2))] [] 0
  unfold f_C_told at hF
  refine vj_aload_n G (p9 := 0) d_C_told_0 rfl rfl ?_
  refine vj_iload_n G (p9 := 1) d_C_told_1 rfl rfl ?_
  refine vj_iload_n G (p9 := 2) d_C_told_2 rfl rfl ?_
  obtain ⟨r1, M1, e1, hF⟩ := bnd_some hF
  refine vj_callV1 G (ct_C_firstOf (gx_ij G) n x1 x2 hx1 hx2 e1) lkC_2 clC_8 rfl q_825 cq_C_firstOf rfl (by decide) (by decide) (Nat.le_of_ble_eq_true rfl) d_C_told_3 rfl (fun hr1 => ?_)
  refine vj_istore_n G (lv2 := [(3, .int (i32 r1)), (0, .ref (wa w 2)), (1, .int (i32 x1)), (2, .int (i32 x2))]) d_C_told_6 rfl (by decide) rfl ?_
  refine vj_iload_n G (p9 := 3) d_C_told_7 rfl rfl ?_
  refine vj_if_eq G (tgt := 16) d_C_told_8 (by decide) hx2 (fun c2 => ?_) (fun c2 => ?_)
  · rw [if_pos c2] at hF
    refine vj_sub [1, 2, 3, 0] rfl ?_
    exact wk_C_told_16 G0 n  x1 x2 r1 hx1 hx2 hr1 _ hF
  · rw [if_neg c2] at hF
    refine vj_iload_n G (p9 := 3) d_C_told_11 rfl rfl ?_
    refine vj_iconst G (v := 2) d_C_told_12 rfl ?_
    refine vj_icmp_ne G (tgt := 31) d_C_told_13 (by decide) hx2 ic_2 (fun c3 => ?_) (fun c3 => ?_)
    · rw [if_pos c3] at hF
      refine vj_iload_n G (p9 := 0) d_C_told_31 rfl rfl ?_
      cases hF
      exact vj_iret G0 hr1 d_C_told_32
    · rw [if_neg c3] at hF
      refine vj_sub [1, 2, 3, 0] rfl ?_
      exact wk_C_told_16 G0 n  x1 x2 r1 hx1 hx2 hr1 _ hF
set_option maxHeartbeats 4000000 in
set_option maxRecDepth 100000 in
theorem wk_W_force_37 {w : Wd} {X : Cx} {r : Int} {M9 : Mm} (G0 : Gx LC w X "WhoRules" b_W_force 5 5 125 (some .int)) (n : Nat) (x1 x2 x3 x4 : Int) (hx1 : inR x1) (hx2 : inR x2) (hx3 : inR x3) (hx4 : inR x4) (M : Mm) (hF : f_W_force_37 n x1 x2 x3 x4 M = some (r, M9)) : VJ LC w X 5 1 r M9 M [(0, .ref (wa w 0)), (1, .int (i32 x1)), (2, .int (i32 x2)), (3, .int (i32 x3)), (4, .int (i32 x4))] [] 37 := by
  have G := G0.1
  unfold f_W_force_37 at hF
  refine vj_iload_n G (p9 := 3) d_W_force_37 rfl rfl ?_
  obtain ⟨r1, M1, e1, hF⟩ := bnd_some hF
  refine vj_callS3 G (ct_W_isDay (gx_ij G) n x3 hx3 e1) q_639 cq_W_isDay rfl (by decide) (by decide) (Nat.le_of_ble_eq_true rfl) d_W_force_38 rfl (fun hr1 => ?_)
  refine vj_if_ne G (tgt := 47) d_W_force_41 (by decide) (ir_b hr1) (fun c2 => ?_) (fun c2 => ?_)
  · rw [if_pos c2] at hF
    refine vj_aload_n G (p9 := 0) d_W_force_47 rfl rfl ?_
    refine gfC_W_34 G d_W_force_48 ?_
    refine vj_iload_n G (p9 := 3) d_W_force_51 rfl rfl ?_
    obtain ⟨r3, M3, e3, hF⟩ := bnd_some hF
    refine vj_callV0 G (ct_U_look (gx_ij G) n x3 hx3 e3) lkC_3 clC_9 rfl q_775 cq_U_look rfl (by decide) (by decide) (Nat.le_of_ble_eq_true rfl) d_W_force_52 rfl (fun hr3 => ?_)
    refine vj_iload_n G (p9 := 2) d_W_force_55 rfl rfl ?_
    refine vj_iconst G (v := 4) d_W_force_56 rfl ?_
    refine vj_icmp_ne G (tgt := 73) d_W_force_57 (by decide) hx2 ic_4 (fun c4 => ?_) (fun c4 => ?_)
    · rw [if_pos c4] at hF
      refine vj_aload_n G (p9 := 0) d_W_force_73 rfl rfl ?_
      refine gfC_W_25 G d_W_force_74 ?_
      refine vj_aload_n G (p9 := 0) d_W_force_77 rfl rfl ?_
      refine gfC_W_34 G d_W_force_78 ?_
      refine gfC_W_164 G d_W_force_81 ?_
      refine vj_iload_n G (p9 := 1) d_W_force_84 rfl rfl ?_
      obtain ⟨c5, hF⟩ := ck_some hF
      refine vj_aald5 G (x := x1) lkC_38 (by decide) c5 d_W_force_85 ?_
      refine vj_iload_n G (p9 := 2) d_W_force_86 rfl rfl ?_
      obtain ⟨c6, hF⟩ := ck_some hF
      refine vj_iald G (x := x2) (lkC_r110 c5) (by decide) c6 d_W_force_87 ?_
      refine vj_mr (fun hM7 => ?_)
      refine vj_iload_n G (p9 := 2) d_W_force_88 rfl rfl ?_
      obtain ⟨r8, M8, e8, hF⟩ := bnd_some hF
      refine vj_callV1 G (ct_C_told (gx_ij G) n (M3 (110 + x1.toNat) x2.toNat) x2 (mr_a hM7 (lkC_r110 c5)) hx2 e8) lkC_2 clC_8 rfl q_821 cq_C_told rfl (by decide) (by decide) (Nat.le_of_ble_eq_true rfl) d_W_force_89 rfl (fun hr8 => ?_)
      cases hF
      exact vj_iret G0 hr8 d_W_force_92
    · rw [if_neg c4] at hF
      refine vj_aload_n G (p9 := 0) d_W_force_60 rfl rfl ?_
      refine gfC_W_34 G d_W_force_61 ?_
      refine vj_iload_n G (p9 := 1) d_W_force_64 rfl rfl ?_
      refine vj_iload G (p9 := 4) d_W_force_65 rfl ?_
      obtain ⟨r9, M9, e9, hF⟩ := bnd_some hF
      refine vj_callV1 G (ct_U_sleepsNow (gx_ij G) n x1 x4 hx1 hx4 e9) lkC_3 clC_9 rfl q_817 cq_U_sleepsNow rfl (by decide) (by decide) (Nat.le_of_ble_eq_true rfl) d_W_force_67 rfl (fun hr9 => ?_)
      refine vj_goto G (tgt := 92) d_W_force_70 (by decide) ?_
      cases hF
      exact vj_iret G0 hr9 d_W_force_92
  · rw [if_neg c2] at hF
    refine vj_bipush G (v := (-2)) d_W_force_44 rfl ?_
    cases hF
    exact vj_iret G0 ic_m2 d_W_force_46
