/-! Written by wip/whole/gen. Walks. -/
set_option maxHeartbeats 4000000 in
set_option maxRecDepth 100000 in
theorem wk_m_in_14 {w : Wd} {X : Cx} {r : Int} {M9 : Mm} (G0 : Gx LR w X "WhoRulesModel" b_m_in 4 0 0 (some .boolean)) (n : Nat) (M : Mm) (hF : f_m_in_14 n  M = some (r, M9)) : VJ LR w X 4 3 r M9 M [] [] 14 := by
  have G := G0.1
  unfold f_m_in_14 at hF
  refine vj_iconst G (v := 0) d_m_in_14 rfl ?_
  cases hF
  exact vj_zret G0 (Or.inl rfl) d_m_in_15
set_option maxHeartbeats 4000000 in
set_option maxRecDepth 100000 in
theorem ct_m_in {w : Wd} (hij : ij LR w) (n : Nat) (x1 x2 x3 : Int) (hx1 : inR x1) (hx2 : inR x2) (hx3 : inR x3) {M : Mm} {r : Int} {M9 : Mm} (hF : f_m_in n x1 x2 x3 M = some (r, M9)) : Ct LR w y_m_in b_m_in 4 (some .boolean) 0 0 3 [.ref (wa w 0), .int (i32 x1), .int (i32 x2), .int (i32 x3)] M r M9 := by
  refine Ct.of hij KstR (by decide +kernel) (Nat.le_of_ble_eq_true rfl) (fun X G0 => ?_)
  have G := G0.1
  show VJ LR w X 4 3 r M9 M [(0, .ref (wa w 0)), (1, .int (i32 x1)), (2, .int (i32 x2)), (3, .int (i32 x3))] [] 0
  unfold f_m_in at hF
  refine vj_iload_n G (p9 := 1) d_m_in_0 rfl rfl ?_
  refine vj_iload_n G (p9 := 2) d_m_in_1 rfl rfl ?_
  refine vj_icmp_lt G (tgt := 14) d_m_in_2 (by decide) hx1 hx2 (fun c1 => ?_) (fun c1 => ?_)
  · rw [if_pos c1] at hF
    refine vj_sub [] rfl ?_
    exact wk_m_in_14 G0 n    _ hF
  · rw [if_neg c1] at hF
    refine vj_iload_n G (p9 := 1) d_m_in_5 rfl rfl ?_
    refine vj_iload_n G (p9 := 3) d_m_in_6 rfl rfl ?_
    refine vj_icmp_gt G (tgt := 14) d_m_in_7 (by decide) hx1 hx3 (fun c2 => ?_) (fun c2 => ?_)
    · rw [if_pos c2] at hF
      refine vj_sub [] rfl ?_
      exact wk_m_in_14 G0 n    _ hF
    · rw [if_neg c2] at hF
      refine vj_iconst G (v := 1) d_m_in_10 rfl ?_
      refine vj_goto G (tgt := 15) d_m_in_11 (by decide) ?_
      cases hF
      exact vj_zret G0 (Or.inr rfl) d_m_in_15
set_option maxHeartbeats 4000000 in
set_option maxRecDepth 100000 in
theorem ct_m_isDay {w : Wd} (hij : ij LR w) (n : Nat) (x1 : Int) (hx1 : inR x1) {M : Mm} {r : Int} {M9 : Mm} (hF : f_m_isDay n x1 M = some (r, M9)) : Ct LR w y_m_isDay b_m_isDay 2 (some .boolean) 1 23 3 [.ref (wa w 0), .int (i32 x1)] M r M9 := by
  refine Ct.of hij KstR (by decide +kernel) (Nat.le_of_ble_eq_true rfl) (fun X G0 => ?_)
  have G := G0.1
  show VJ LR w X 2 3 r M9 M [(0, .ref (wa w 0)), (1, .int (i32 x1))] [] 0
  unfold f_m_isDay at hF
  refine vj_aload_n G (p9 := 0) d_m_isDay_0 rfl rfl ?_
  refine vj_iload_n G (p9 := 1) d_m_isDay_1 rfl rfl ?_
  refine vj_iconst G (v := 0) d_m_isDay_2 rfl ?_
  refine vj_sipush G (v := 999) d_m_isDay_3 rfl ?_
  obtain ⟨r1, M1, e1, hF⟩ := bnd_some hF
  refine vj_callV3 G (ct_m_in (gx_ij G) n x1 0 999 hx1 ic_0 ic_999 e1) lkR_0 clR_0 rfl q_1543 cq_m_in rfl (by decide) (by decide) (Nat.le_of_ble_eq_true rfl) d_m_isDay_6 rfl (fun hr1 => ?_)
  cases hF
  exact vj_zret G0 hr1 d_m_isDay_9
set_option maxHeartbeats 4000000 in
set_option maxRecDepth 100000 in
theorem wk_m_ones_5 {w : Wd} {X : Cx} {r : Int} {M9 : Mm} (G0 : Gx LR w X "WhoRulesModel" b_m_ones 6 0 0 (some .int)) (n : Nat) (k5 : Int → Int → Mm → Rr) (hk5 : ∀ (x3 x4 : Int) (hx3 : inR x3) (hx4 : in64 x4) (M : Mm), k5 x3 x4 M = some (r, M9) → VJ LR w X 6 1 r M9 M [(3, .int (i32 x3)), (4, .long (i64 x4))] [] 5) (x3 x4 : Int) (hx3 : inR x3) (hx4 : in64 x4) (M : Mm) (hF : f_m_ones_5 n k5 x3 x4 M = some (r, M9)) : VJ LR w X 6 1 r M9 M [(3, .int (i32 x3)), (4, .long (i64 x4))] [] 5 := by
  have G := G0.1
  unfold f_m_ones_5 at hF
  refine vj_lload G (p9 := 1) d_m_ones_5 rfl ?_
  refine vj_lconst G (v := 0) d_m_ones_7 rfl ?_
  refine vj_lcmp_eq G (tgt := 27) d_m_ones_8 d_m_ones_9 (by decide) hx4 (lr_i ic_0) (fun c1 => ?_) (fun c1 => ?_)
  · rw [if_pos c1] at hF
    refine vj_iload_n G (p9 := 0) d_m_ones_27 rfl rfl ?_
    cases hF
    exact vj_iret G0 hx3 d_m_ones_28
  · rw [if_neg c1] at hF
    refine vj_iinc G (p9 := 0) (n := 1) (lv2 := [(3, .int (i32 (w32 (x3 + 1)))), (4, .long (i64 x4))]) d_m_ones_12 rfl (by decide) rfl ?_
    refine vj_lload G (p9 := 1) d_m_ones_15 rfl ?_
    refine vj_lload G (p9 := 1) d_m_ones_17 rfl ?_
    refine vj_lconst G (v := 1) d_m_ones_19 rfl ?_
    refine vj_lsub G d_m_ones_20 ?_
    refine vj_land G d_m_ones_21 ?_
    refine vj_lstore G (lv2 := [(4, .long (i64 (lan x4 (w64 (x4 - 1))))), (3, .int (i32 (w32 (x3 + 1))))]) d_m_ones_22 (by decide) rfl ?_
    refine vj_goto G (tgt := 5) d_m_ones_24 (by decide) ?_
    refine vj_sub [1, 0] rfl ?_
    exact hk5 (w32 (x3 + 1)) (lan x4 (w64 (x4 - 1))) (ir_w _) (lr_an _ _) _ hF
set_option maxHeartbeats 4000000 in
set_option maxRecDepth 100000 in
theorem wl_m_ones_5 {w : Wd} {X : Cx} {r : Int} {M9 : Mm} (G0 : Gx LR w X "WhoRulesModel" b_m_ones 6 0 0 (some .int)) (n : Nat) : ∀ (f : Nat) (x3 x4 : Int) (hx3 : inR x3) (hx4 : in64 x4) (M : Mm), lp_m_ones_5 n f x3 x4 M = some (r, M9) → VJ LR w X 6 1 r M9 M [(3, .int (i32 x3)), (4, .long (i64 x4))] [] 5 := by
  intro f
  induction f with
  | zero => intro x3 x4 hx3 hx4 M hF; cases hF
  | succ f ih => intro x3 x4 hx3 hx4 M hF; exact wk_m_ones_5 G0 n (lp_m_ones_5 n f) ih x3 x4 hx3 hx4 M hF
set_option maxHeartbeats 4000000 in
set_option maxRecDepth 100000 in
theorem ct_m_ones {w : Wd} (hij : ij LR w) (n : Nat) (x1 : Int) (hx1 : in64 x1) {M : Mm} {r : Int} {M9 : Mm} (hF : f_m_ones n x1 M = some (r, M9)) : Ct LR w y_m_ones b_m_ones 6 (some .int) 0 0 1 [.ref (wa w 0), .long (i64 x1)] M r M9 := by
  refine Ct.of hij KstR (by decide +kernel) (Nat.le_of_ble_eq_true rfl) (fun X G0 => ?_)
  have G := G0.1
  show VJ LR w X 6 1 r M9 M [(0, .ref (wa w 0)), (1, .long (i64 x1))] [] 0
  unfold f_m_ones at hF
  refine vj_iconst G (v := 0) d_m_ones_0 rfl ?_
  refine vj_istore_n G (lv2 := [(3, .int (i32 0)), (0, .ref (wa w 0)), (1, .long (i64 x1))]) d_m_ones_1 rfl (by decide) rfl ?_
  refine vj_lload_n G (p9 := 2) d_m_ones_2 rfl rfl ?_
  refine vj_lstore G (lv2 := [(4, .long (i64 x1)), (3, .int (i32 0)), (0, .ref (wa w 0)), (1, .long (i64 x1))]) d_m_ones_3 (by decide) rfl ?_
  refine vj_sub [1, 0] rfl ?_
  exact wl_m_ones_5 G0 n  n 0 x1 ic_0 hx1 _ hF
set_option maxHeartbeats 4000000 in
set_option maxRecDepth 100000 in
theorem ct_m_isHolder {w : Wd} (hij : ij LR w) (n : Nat) (x1 : Int) (hx1 : inR x1) {M : Mm} {r : Int} {M9 : Mm} (hF : f_m_isHolder n x1 M = some (r, M9)) : Ct LR w y_m_isHolder b_m_isHolder 2 (some .boolean) 1 23 3 [.ref (wa w 0), .int (i32 x1)] M r M9 := by
  refine Ct.of hij KstR (by decide +kernel) (Nat.le_of_ble_eq_true rfl) (fun X G0 => ?_)
  have G := G0.1
  show VJ LR w X 2 3 r M9 M [(0, .ref (wa w 0)), (1, .int (i32 x1))] [] 0
  unfold f_m_isHolder at hF
  refine vj_aload_n G (p9 := 0) d_m_isHolder_0 rfl rfl ?_
  refine vj_iload_n G (p9 := 1) d_m_isHolder_1 rfl rfl ?_
  refine vj_iconst G (v := 0) d_m_isHolder_2 rfl ?_
  refine vj_aload_n G (p9 := 0) d_m_isHolder_3 rfl rfl ?_
  refine gfR_m_13 G d_m_isHolder_4 ?_
  refine vj_mr (fun hM1 => ?_)
  refine vj_iconst G (v := 1) d_m_isHolder_7 rfl ?_
  refine vj_isub G d_m_isHolder_8 ?_
  obtain ⟨r2, M2, e2, hF⟩ := bnd_some hF
  refine vj_callV3 G (ct_m_in (gx_ij G) n x1 0 (w32 ((M 0 1) - 1)) hx1 ic_0 (ir_w _) e2) lkR_0 clR_0 rfl q_1543 cq_m_in rfl (by decide) (by decide) (Nat.le_of_ble_eq_true rfl) d_m_isHolder_9 rfl (fun hr2 => ?_)
  cases hF
  exact vj_zret G0 hr2 d_m_isHolder_12
set_option maxHeartbeats 4000000 in
set_option maxRecDepth 100000 in
theorem wk_m_isFirm_22 {w : Wd} {X : Cx} {r : Int} {M9 : Mm} (G0 : Gx LR w X "WhoRulesModel" b_m_isFirm 2 2 44 (some .boolean)) (n : Nat) (M : Mm) (hF : f_m_isFirm_22 n  M = some (r, M9)) : VJ LR w X 2 3 r M9 M [] [] 22 := by
  have G := G0.1
  unfold f_m_isFirm_22 at hF
  refine vj_iconst G (v := 0) d_m_isFirm_22 rfl ?_
  cases hF
  exact vj_zret G0 (Or.inl rfl) d_m_isFirm_23
set_option maxHeartbeats 4000000 in
set_option maxRecDepth 100000 in
theorem ct_m_isFirm {w : Wd} (hij : ij LR w) (n : Nat) (x1 : Int) (hx1 : inR x1) {M : Mm} {r : Int} {M9 : Mm} (hF : f_m_isFirm n x1 M = some (r, M9)) : Ct LR w y_m_isFirm b_m_isFirm 2 (some .boolean) 2 44 3 [.ref (wa w 0), .int (i32 x1)] M r M9 := by
  refine Ct.of hij KstR (by decide +kernel) (Nat.le_of_ble_eq_true rfl) (fun X G0 => ?_)
  have G := G0.1
  show VJ LR w X 2 3 r M9 M [(0, .ref (wa w 0)), (1, .int (i32 x1))] [] 0
  unfold f_m_isFirm at hF
  refine vj_aload_n G (p9 := 0) d_m_isFirm_0 rfl rfl ?_
  refine vj_iload_n G (p9 := 1) d_m_isFirm_1 rfl rfl ?_
  obtain ⟨r1, M1, e1, hF⟩ := bnd_some hF
  refine vj_callV3 G (ct_m_isHolder (gx_ij G) n x1 hx1 e1) lkR_0 clR_0 rfl q_1559 cq_m_isHolder rfl (by decide) (by decide) (Nat.le_of_ble_eq_true rfl) d_m_isFirm_2 rfl (fun hr1 => ?_)
  refine vj_if_eq G (tgt := 22) d_m_isFirm_5 (by decide) (ir_b hr1) (fun c2 => ?_) (fun c2 => ?_)
  · rw [if_pos c2] at hF
    refine vj_sub [] rfl ?_
    exact wk_m_isFirm_22 G0 n    _ hF
  · rw [if_neg c2] at hF
    refine vj_aload_n G (p9 := 0) d_m_isFirm_8 rfl rfl ?_
    refine gfR_m_25 G d_m_isFirm_9 ?_
    refine vj_iload_n G (p9 := 1) d_m_isFirm_12 rfl rfl ?_
    obtain ⟨c3, hF⟩ := ck_some hF
    refine vj_iald G (x := x1) lkR_1 (by decide) c3 d_m_isFirm_13 ?_
    refine vj_mr (fun hM4 => ?_)
    refine vj_iconst G (v := 1) d_m_isFirm_14 rfl ?_
    refine vj_icmp_ne G (tgt := 22) d_m_isFirm_15 (by decide) (mr_a hM4 lkR_1) ic_1 (fun c5 => ?_) (fun c5 => ?_)
    · rw [if_pos c5] at hF
      refine vj_sub [] rfl ?_
      exact wk_m_isFirm_22 G0 n    _ hF
    · rw [if_neg c5] at hF
      refine vj_iconst G (v := 1) d_m_isFirm_18 rfl ?_
      refine vj_goto G (tgt := 23) d_m_isFirm_19 (by decide) ?_
      cases hF
      exact vj_zret G0 (Or.inr rfl) d_m_isFirm_23
set_option maxHeartbeats 4000000 in
set_option maxRecDepth 100000 in
theorem ct_m_isShare {w : Wd} (hij : ij LR w) (n : Nat) (x1 : Int) (hx1 : inR x1) {M : Mm} {r : Int} {M9 : Mm} (hF : f_m_isShare n x1 M = some (r, M9)) : Ct LR w y_m_isShare b_m_isShare 2 (some .boolean) 1 23 3 [.ref (wa w 0), .int (i32 x1)] M r M9 := by
  refine Ct.of hij KstR (by decide +kernel) (Nat.le_of_ble_eq_true rfl) (fun X G0 => ?_)
  have G := G0.1
  show VJ LR w X 2 3 r M9 M [(0, .ref (wa w 0)), (1, .int (i32 x1))] [] 0
  unfold f_m_isShare at hF
  refine vj_aload_n G (p9 := 0) d_m_isShare_0 rfl rfl ?_
  refine vj_iload_n G (p9 := 1) d_m_isShare_1 rfl rfl ?_
  refine vj_iconst G (v := 0) d_m_isShare_2 rfl ?_
  refine vj_aload_n G (p9 := 0) d_m_isShare_3 rfl rfl ?_
  refine gfR_m_19 G d_m_isShare_4 ?_
  refine vj_mr (fun hM1 => ?_)
  refine vj_iconst G (v := 1) d_m_isShare_7 rfl ?_
  refine vj_isub G d_m_isShare_8 ?_
  obtain ⟨r2, M2, e2, hF⟩ := bnd_some hF
  refine vj_callV3 G (ct_m_in (gx_ij G) n x1 0 (w32 ((M 0 3) - 1)) hx1 ic_0 (ir_w _) e2) lkR_0 clR_0 rfl q_1543 cq_m_in rfl (by decide) (by decide) (Nat.le_of_ble_eq_true rfl) d_m_isShare_9 rfl (fun hr2 => ?_)
  cases hF
  exact vj_zret G0 hr2 d_m_isShare_12
set_option maxHeartbeats 4000000 in
set_option maxRecDepth 100000 in
theorem ct_m_pass {w : Wd} (hij : ij LR w) (n : Nat) (x1 : Int) (hx1 : inR x1) {M : Mm} {r : Int} {M9 : Mm} (hF : f_m_pass n x1 M = some (r, M9)) : Ct LR w y_m_pass b_m_pass 2 (some .int) 1 23 1 [.ref (wa w 0), .int (i32 x1)] M r M9 := by
  refine Ct.of hij KstR (by decide +kernel) (Nat.le_of_ble_eq_true rfl) (fun X G0 => ?_)
  have G := G0.1
  show VJ LR w X 2 1 r M9 M [(0, .ref (wa w 0)), (1, .int (i32 x1))] [] 0
  unfold f_m_pass at hF
  refine vj_aload_n G (p9 := 0) d_m_pass_0 rfl rfl ?_
  refine vj_iload_n G (p9 := 1) d_m_pass_1 rfl rfl ?_
  refine vj_iconst G (v := 1) d_m_pass_2 rfl ?_
  refine vj_bipush G (v := 99) d_m_pass_3 rfl ?_
  obtain ⟨r1, M1, e1, hF⟩ := bnd_some hF
  refine vj_callV3 G (ct_m_in (gx_ij G) n x1 1 99 hx1 ic_1 ic_99 e1) lkR_0 clR_0 rfl q_1543 cq_m_in rfl (by decide) (by decide) (Nat.le_of_ble_eq_true rfl) d_m_pass_5 rfl (fun hr1 => ?_)
  refine vj_if_eq G (tgt := 23) d_m_pass_8 (by decide) (ir_b hr1) (fun c2 => ?_) (fun c2 => ?_)
  · rw [if_pos c2] at hF
    refine vj_bipush G (v := (-2)) d_m_pass_23 rfl ?_
    cases hF
    exact vj_iret G0 ic_m2 d_m_pass_25
  · rw [if_neg c2] at hF
    refine vj_aload_n G (p9 := 0) d_m_pass_11 rfl rfl ?_
    refine gfR_m_7 G d_m_pass_12 ?_
    refine vj_mr (fun hM3 => ?_)
    refine vj_iload_n G (p9 := 1) d_m_pass_15 rfl rfl ?_
    refine vj_iadd G d_m_pass_16 ?_
    refine vj_sipush G (v := 999) d_m_pass_17 rfl ?_
    refine vj_icmp_le G (tgt := 26) d_m_pass_20 (by decide) (ir_w _) ic_999 (fun c4 => ?_) (fun c4 => ?_)
    · rw [if_pos c4] at hF
      refine vj_aload_n G (p9 := 0) d_m_pass_26 rfl rfl ?_
      refine vj_dup G d_m_pass_27 rfl ?_
      refine gfR_m_7 G d_m_pass_28 ?_
      refine vj_mr (fun hM5 => ?_)
      refine vj_iload_n G (p9 := 1) d_m_pass_31 rfl rfl ?_
      refine vj_iadd G d_m_pass_32 ?_
      refine pfR_m_7 G (ir_w _) d_m_pass_33 ?_
      refine vj_aload_n G (p9 := 0) d_m_pass_36 rfl rfl ?_
      refine gfR_m_7 G d_m_pass_37 ?_
      refine vj_mr (fun hM6 => ?_)
      cases hF
      exact vj_iret G0 (mr_o hM6 lkR_0 flR_0_0) d_m_pass_40
    · rw [if_neg c4] at hF
      refine vj_bipush G (v := (-2)) d_m_pass_23 rfl ?_
      cases hF
      exact vj_iret G0 ic_m2 d_m_pass_25
set_option maxHeartbeats 4000000 in
set_option maxRecDepth 100000 in
theorem wk_m_holder_97 {w : Wd} {X : Cx} {r : Int} {M9 : Mm} (G0 : Gx LR w X "WhoRulesModel" b_m_holder 3 1 23 (some .int)) (n : Nat) (s1 s2 : Int) (hs1 : inR s1) (hs2 : inB s2) (M : Mm) (hF : f_m_holder_97 n s1 s2 M = some (r, M9)) : VJ LR w X 3 1 r M9 M [(0, .ref (wa w 0))] [.int (i32 s2), .int (i32 s1), .ref (wa w 0)] 97 := by
  have G := G0.1
  unfold f_m_holder_97 at hF
  refine vj_iadd G d_m_holder_97 ?_
  refine pfR_m_16 G (ir_w _) d_m_holder_98 ?_
  refine vj_aload_n G (p9 := 0) d_m_holder_101 rfl rfl ?_
  refine vj_dup G d_m_holder_102 rfl ?_
  refine gfR_m_13 G d_m_holder_103 ?_
  refine vj_mr (fun hM1 => ?_)
  refine vj_iconst G (v := 1) d_m_holder_106 rfl ?_
  refine vj_iadd G d_m_holder_107 ?_
  refine pfR_m_13 G (ir_w _) d_m_holder_108 ?_
  refine vj_aload_n G (p9 := 0) d_m_holder_111 rfl rfl ?_
  refine gfR_m_13 G d_m_holder_112 ?_
  refine vj_mr (fun hM2 => ?_)
  refine vj_iconst G (v := 1) d_m_holder_115 rfl ?_
  refine vj_isub G d_m_holder_116 ?_
  cases hF
  exact vj_iret G0 (ir_w _) d_m_holder_117
set_option maxHeartbeats 4000000 in
set_option maxRecDepth 100000 in
theorem wk_m_holder_81 {w : Wd} {X : Cx} {r : Int} {M9 : Mm} (G0 : Gx LR w X "WhoRulesModel" b_m_holder 3 1 23 (some .int)) (n : Nat) (x1 s1 s2 : Int) (hx1 : inR x1) (hs1 : inR s1) (hs2 : inR s2) (M : Mm) (hF : f_m_holder_81 n x1 s1 s2 M = some (r, M9)) : VJ LR w X 3 1 r M9 M [(0, .ref (wa w 0)), (1, .int (i32 x1))] [.int (i32 s2), .int (i32 s1), .ref (wa w 2)] 81 := by
  have G := G0.1
  unfold f_m_holder_81 at hF
  obtain ⟨c1, hF⟩ := ck_some hF
  refine vj_iast G (x := s1) lkR_2 (by decide) (by decide) (by decide) c1 hs2 d_m_holder_81 ?_
  refine vj_aload_n G (p9 := 0) d_m_holder_82 rfl rfl ?_
  refine vj_dup G d_m_holder_83 rfl ?_
  refine gfR_m_16 G d_m_holder_84 ?_
  refine vj_mr (fun hM2 => ?_)
  refine vj_iload_n G (p9 := 1) d_m_holder_87 rfl rfl ?_
  refine vj_iconst G (v := 1) d_m_holder_88 rfl ?_
  refine vj_icmp_ne G (tgt := 96) d_m_holder_89 (by decide) hx1 ic_1 (fun c3 => ?_) (fun c3 => ?_)
  · rw [if_pos c3] at hF
    refine vj_iconst G (v := 0) d_m_holder_96 rfl ?_
    refine vj_sub [0] rfl ?_
    exact wk_m_holder_97 G0 n  ((mset M 2 s1.toNat s2) 0 2) 0 (mr_o hM2 lkR_0 flR_0_2) (Or.inl rfl) _ hF
  · rw [if_neg c3] at hF
    refine vj_iconst G (v := 1) d_m_holder_92 rfl ?_
    refine vj_goto G (tgt := 97) d_m_holder_93 (by decide) ?_
    refine vj_sub [0] rfl ?_
    exact wk_m_holder_97 G0 n  ((mset M 2 s1.toNat s2) 0 2) 1 (mr_o hM2 lkR_0 flR_0_2) (Or.inr rfl) _ hF
set_option maxHeartbeats 4000000 in
set_option maxRecDepth 100000 in
theorem wk_m_holder_53 {w : Wd} {X : Cx} {r : Int} {M9 : Mm} (G0 : Gx LR w X "WhoRulesModel" b_m_holder 3 1 23 (some .int)) (n : Nat) (x1 x2 : Int) (hx1 : inR x1) (hx2 : inR x2) (M : Mm) (hF : f_m_holder_53 n x1 x2 M = some (r, M9)) : VJ LR w X 3 1 r M9 M [(0, .ref (wa w 0)), (1, .int (i32 x1)), (2, .int (i32 x2))] [] 53 := by
  have G := G0.1
  unfold f_m_holder_53 at hF
  refine vj_aload_n G (p9 := 0) d_m_holder_53 rfl rfl ?_
  refine gfR_m_25 G d_m_holder_54 ?_
  refine vj_aload_n G (p9 := 0) d_m_holder_57 rfl rfl ?_
  refine gfR_m_13 G d_m_holder_58 ?_
  refine vj_mr (fun hM1 => ?_)
  refine vj_iload_n G (p9 := 1) d_m_holder_61 rfl rfl ?_
  obtain ⟨c2, hF⟩ := ck_some hF
  refine vj_iast G (x := (M 0 1)) lkR_1 (by decide) (by decide) (by decide) c2 hx1 d_m_holder_62 ?_
  refine vj_aload_n G (p9 := 0) d_m_holder_63 rfl rfl ?_
  refine gfR_m_29 G d_m_holder_64 ?_
  refine vj_aload_n G (p9 := 0) d_m_holder_67 rfl rfl ?_
  refine gfR_m_13 G d_m_holder_68 ?_
  refine vj_mr (fun hM3 => ?_)
  refine vj_iload_n G (p9 := 1) d_m_holder_71 rfl rfl ?_
  refine vj_iconst G (v := 3) d_m_holder_72 rfl ?_
  refine vj_icmp_ne G (tgt := 80) d_m_holder_73 (by decide) hx1 ic_3 (fun c4 => ?_) (fun c4 => ?_)
  · rw [if_pos c4] at hF
    refine vj_iconst G (v := 0) d_m_holder_80 rfl ?_
    refine vj_sub [0, 1] rfl ?_
    exact wk_m_holder_81 G0 n  x1 ((mset M 1 (M 0 1).toNat x1) 0 1) 0 hx1 (mr_o hM3 lkR_0 flR_0_1) ic_0 _ hF
  · rw [if_neg c4] at hF
    refine vj_iload_n G (p9 := 2) d_m_holder_76 rfl rfl ?_
    refine vj_goto G (tgt := 81) d_m_holder_77 (by decide) ?_
    refine vj_sub [0, 1] rfl ?_
    exact wk_m_holder_81 G0 n  x1 ((mset M 1 (M 0 1).toNat x1) 0 1) x2 hx1 (mr_o hM3 lkR_0 flR_0_1) hx2 _ hF
set_option maxHeartbeats 4000000 in
set_option maxRecDepth 100000 in
theorem wk_m_holder_27 {w : Wd} {X : Cx} {r : Int} {M9 : Mm} (G0 : Gx LR w X "WhoRulesModel" b_m_holder 3 1 23 (some .int)) (n : Nat) (x1 x2 : Int) (hx1 : inR x1) (hx2 : inR x2) (M : Mm) (hF : f_m_holder_27 n x1 x2 M = some (r, M9)) : VJ LR w X 3 1 r M9 M [(0, .ref (wa w 0)), (1, .int (i32 x1)), (2, .int (i32 x2))] [] 27 := by
  have G := G0.1
  unfold f_m_holder_27 at hF
  refine vj_aload_n G (p9 := 0) d_m_holder_27 rfl rfl ?_
  refine gfR_m_13 G d_m_holder_28 ?_
  refine vj_mr (fun hM1 => ?_)
  refine vj_bipush G (v := 16) d_m_holder_31 rfl ?_
  refine vj_icmp_eq G (tgt := 50) d_m_holder_33 (by decide) (mr_o hM1 lkR_0 flR_0_1) ic_16 (fun c2 => ?_) (fun c2 => ?_)
  · rw [if_pos c2] at hF
    refine vj_bipush G (v := (-4)) d_m_holder_50 rfl ?_
    cases hF
    exact vj_iret G0 ic_m4 d_m_holder_52
  · rw [if_neg c2] at hF
    refine vj_iload_n G (p9 := 1) d_m_holder_36 rfl rfl ?_
    refine vj_iconst G (v := 1) d_m_holder_37 rfl ?_
    refine vj_icmp_ne G (tgt := 53) d_m_holder_38 (by decide) hx1 ic_1 (fun c3 => ?_) (fun c3 => ?_)
    · rw [if_pos c3] at hF
      exact wk_m_holder_53 G0 n  x1 x2 hx1 hx2 _ hF
    · rw [if_neg c3] at hF
      refine vj_aload_n G (p9 := 0) d_m_holder_41 rfl rfl ?_
      refine gfR_m_16 G d_m_holder_42 ?_
      refine vj_mr (fun hM4 => ?_)
      refine vj_bipush G (v := 7) d_m_holder_45 rfl ?_
      refine vj_icmp_ne G (tgt := 53) d_m_holder_47 (by decide) (mr_o hM4 lkR_0 flR_0_2) ic_7 (fun c5 => ?_) (fun c5 => ?_)
      · rw [if_pos c5] at hF
        exact wk_m_holder_53 G0 n  x1 x2 hx1 hx2 _ hF
      · rw [if_neg c5] at hF
        refine vj_bipush G (v := (-4)) d_m_holder_50 rfl ?_
        cases hF
        exact vj_iret G0 ic_m4 d_m_holder_52
set_option maxHeartbeats 4000000 in
set_option maxRecDepth 100000 in
theorem ct_m_holder {w : Wd} (hij : ij LR w) (n : Nat) (x1 x2 : Int) (hx1 : inR x1) (hx2 : inR x2) {M : Mm} {r : Int} {M9 : Mm} (hF : f_m_holder n x1 x2 M = some (r, M9)) : Ct LR w y_m_holder b_m_holder 3 (some .int) 1 23 1 [.ref (wa w 0), .int (i32 x1), .int (i32 x2)] M r M9 := by
  refine Ct.of hij KstR (by decide +kernel) (Nat.le_of_ble_eq_true rfl) (fun X G0 => ?_)
  have G := G0.1
  show VJ LR w X 3 1 r M9 M [(0, .ref (wa w 0)), (1, .int (i32 x1)), (2, .int (i32 x2))] [] 0
  unfold f_m_holder at hF
  refine vj_aload_n G (p9 := 0) d_m_holder_0 rfl rfl ?_
  refine vj_iload_n G (p9 := 1) d_m_holder_1 rfl rfl ?_
  refine vj_iconst G (v := 0) d_m_holder_2 rfl ?_
  refine vj_iconst G (v := 5) d_m_holder_3 rfl ?_
  obtain ⟨r1, M1, e1, hF⟩ := bnd_some hF
  refine vj_callV3 G (ct_m_in (gx_ij G) n x1 0 5 hx1 ic_0 ic_5 e1) lkR_0 clR_0 rfl q_1543 cq_m_in rfl (by decide) (by decide) (Nat.le_of_ble_eq_true rfl) d_m_holder_4 rfl (fun hr1 => ?_)
  refine vj_if_eq G (tgt := 25) d_m_holder_7 (by decide) (ir_b hr1) (fun c2 => ?_) (fun c2 => ?_)
  · rw [if_pos c2] at hF
    refine vj_iconst G (v := (-1)) d_m_holder_25 rfl ?_
    cases hF
    exact vj_iret G0 ic_m1 d_m_holder_26
  · rw [if_neg c2] at hF
    refine vj_iload_n G (p9 := 1) d_m_holder_10 rfl rfl ?_
    refine vj_iconst G (v := 3) d_m_holder_11 rfl ?_
    refine vj_icmp_ne G (tgt := 27) d_m_holder_12 (by decide) hx1 ic_3 (fun c3 => ?_) (fun c3 => ?_)
    · rw [if_pos c3] at hF
      exact wk_m_holder_27 G0 n  x1 x2 hx1 hx2 _ hF
    · rw [if_neg c3] at hF
      refine vj_aload_n G (p9 := 0) d_m_holder_15 rfl rfl ?_
      refine vj_iload_n G (p9 := 2) d_m_holder_16 rfl rfl ?_
      refine vj_iconst G (v := 0) d_m_holder_17 rfl ?_
      refine vj_iconst G (v := 3) d_m_holder_18 rfl ?_
      obtain ⟨r4, M4, e4, hF⟩ := bnd_some hF
      refine vj_callV3 G (ct_m_in (gx_ij G) n x2 0 3 hx2 ic_0 ic_3 e4) lkR_0 clR_0 rfl q_1543 cq_m_in rfl (by decide) (by decide) (Nat.le_of_ble_eq_true rfl) d_m_holder_19 rfl (fun hr4 => ?_)
      refine vj_if_ne G (tgt := 27) d_m_holder_22 (by decide) (ir_b hr4) (fun c5 => ?_) (fun c5 => ?_)
      · rw [if_pos c5] at hF
        exact wk_m_holder_27 G0 n  x1 x2 hx1 hx2 _ hF
      · rw [if_neg c5] at hF
        refine vj_iconst G (v := (-1)) d_m_holder_25 rfl ?_
        cases hF
        exact vj_iret G0 ic_m1 d_m_holder_26
set_option maxHeartbeats 4000000 in
set_option maxRecDepth 100000 in
theorem wk_m_share_83 {w : Wd} {X : Cx} {r : Int} {M9 : Mm} (G0 : Gx LR w X "WhoRulesModel" b_m_share 7 3 65 (some .int)) (n : Nat) (k50 : Int → Int → Int → Int → Int → Int → Mm → Rr) (hk50 : ∀ (x1 x2 x3 x4 x5 x6 : Int) (hx1 : inR x1) (hx2 : inR x2) (hx3 : inR x3) (hx4 : inR x4) (hx5 : inR x5) (hx6 : inR x6) (M : Mm), k50 x1 x2 x3 x4 x5 x6 M = some (r, M9) → VJ LR w X 7 1 r M9 M [(0, .ref (wa w 0)), (1, .int (i32 x1)), (2, .int (i32 x2)), (3, .int (i32 x3)), (4, .int (i32 x4)), (5, .int (i32 x5)), (6, .int (i32 x6))] [] 50) (x1 x2 x3 x4 x6 s0 s1 : Int) (hx1 : inR x1) (hx2 : inR x2) (hx3 : inR x3) (hx4 : inR x4) (hx6 : inR x6) (hs0 : inR s0) (hs1 : inR s1) (M : Mm) (hF : f_m_share_83 n k50 x1 x2 x3 x4 x6 s0 s1 M = some (r, M9)) : VJ LR w X 7 1 r M9 M [(0, .ref (wa w 0)), (1, .int (i32 x1)), (2, .int (i32 x2)), (3, .int (i32 x3)), (4, .int (i32 x4)), (6, .int (i32 x6))] [.int (i32 s1), .int (i32 s0)] 83 := by
  have G := G0.1
  unfold f_m_share_83 at hF
  refine vj_iadd G d_m_share_83 ?_
  refine vj_istore G (lv2 := [(5, .int (i32 (w32 (s0 + s1)))), (0, .ref (wa w 0)), (1, .int (i32 x1)), (2, .int (i32 x2)), (3, .int (i32 x3)), (4, .int (i32 x4)), (6, .int (i32 x6))]) d_m_share_84 (by decide) rfl ?_
  refine vj_iinc G (p9 := 6) (n := 1) (lv2 := [(6, .int (i32 (w32 (x6 + 1)))), (5, .int (i32 (w32 (s0 + s1)))), (0, .ref (wa w 0)), (1, .int (i32 x1)), (2, .int (i32 x2)), (3, .int (i32 x3)), (4, .int (i32 x4))]) d_m_share_86 rfl (by decide) rfl ?_
  refine vj_goto G (tgt := 50) d_m_share_89 (by decide) ?_
  refine vj_sub [2, 3, 4, 5, 6, 1, 0] rfl ?_
  exact hk50 x1 x2 x3 x4 (w32 (s0 + s1)) (w32 (x6 + 1)) hx1 hx2 hx3 hx4 (ir_w _) (ir_w _) _ hF
set_option maxHeartbeats 4000000 in
set_option maxRecDepth 100000 in
theorem wk_m_share_50 {w : Wd} {X : Cx} {r : Int} {M9 : Mm} (G0 : Gx LR w X "WhoRulesModel" b_m_share 7 3 65 (some .int)) (n : Nat) (k50 : Int → Int → Int → Int → Int → Int → Mm → Rr) (hk50 : ∀ (x1 x2 x3 x4 x5 x6 : Int) (hx1 : inR x1) (hx2 : inR x2) (hx3 : inR x3) (hx4 : inR x4) (hx5 : inR x5) (hx6 : inR x6) (M : Mm), k50 x1 x2 x3 x4 x5 x6 M = some (r, M9) → VJ LR w X 7 1 r M9 M [(0, .ref (wa w 0)), (1, .int (i32 x1)), (2, .int (i32 x2)), (3, .int (i32 x3)), (4, .int (i32 x4)), (5, .int (i32 x5)), (6, .int (i32 x6))] [] 50) (x1 x2 x3 x4 x5 x6 : Int) (hx1 : inR x1) (hx2 : inR x2) (hx3 : inR x3) (hx4 : inR x4) (hx5 : inR x5) (hx6 : inR x6) (M : Mm) (hF : f_m_share_50 n k50 x1 x2 x3 x4 x5 x6 M = some (r, M9)) : VJ LR w X 7 1 r M9 M [(0, .ref (wa w 0)), (1, .int (i32 x1)), (2, .int (i32 x2)), (3, .int (i32 x3)), (4, .int (i32 x4)), (5, .int (i32 x5)), (6, .int (i32 x6))] [] 50 := by
  have G := G0.1
  unfold f_m_share_50 at hF
  refine vj_iload G (p9 := 6) d_m_share_50 rfl ?_
  refine vj_aload_n G (p9 := 0) d_m_share_52 rfl rfl ?_
  refine gfR_m_19 G d_m_share_53 ?_
  refine vj_mr (fun hM1 => ?_)
  refine vj_icmp_ge G (tgt := 92) d_m_share_56 (by decide) hx6 (mr_o hM1 lkR_0 flR_0_3) (fun c2 => ?_) (fun c2 => ?_)
  · rw [if_pos c2] at hF
    refine vj_iload G (p9 := 5) d_m_share_92 rfl ?_
    refine vj_bipush G (v := 12) d_m_share_94 rfl ?_
    refine vj_icmp_le G (tgt := 102) d_m_share_96 (by decide) hx5 ic_12 (fun c3 => ?_) (fun c3 => ?_)
    · rw [if_pos c3] at hF
      refine vj_aload_n G (p9 := 0) d_m_share_102 rfl rfl ?_
      refine gfR_m_19 G d_m_share_103 ?_
      refine vj_mr (fun hM4 => ?_)
      refine vj_bipush G (v := 40) d_m_share_106 rfl ?_
      refine vj_icmp_ne G (tgt := 114) d_m_share_108 (by decide) (mr_o hM4 lkR_0 flR_0_3) ic_40 (fun c5 => ?_) (fun c5 => ?_)
      · rw [if_pos c5] at hF
        refine vj_aload_n G (p9 := 0) d_m_share_114 rfl rfl ?_
        refine gfR_m_32 G d_m_share_115 ?_
        refine vj_aload_n G (p9 := 0) d_m_share_118 rfl rfl ?_
        refine gfR_m_19 G d_m_share_119 ?_
        refine vj_mr (fun hM6 => ?_)
        refine vj_iload_n G (p9 := 1) d_m_share_122 rfl rfl ?_
        obtain ⟨c7, hF⟩ := ck_some hF
        refine vj_iast G (x := (M 0 3)) lkR_3 (by decide) (by decide) (by decide) c7 hx1 d_m_share_123 ?_
        refine vj_aload_n G (p9 := 0) d_m_share_124 rfl rfl ?_
        refine gfR_m_35 G d_m_share_125 ?_
        refine vj_aload_n G (p9 := 0) d_m_share_128 rfl rfl ?_
        refine gfR_m_19 G d_m_share_129 ?_
        refine vj_mr (fun hM8 => ?_)
        refine vj_iload_n G (p9 := 2) d_m_share_132 rfl rfl ?_
        obtain ⟨c9, hF⟩ := ck_some hF
        refine vj_iast G (x := ((mset M 3 (M 0 3).toNat x1) 0 3)) lkR_4 (by decide) (by decide) (by decide) c9 hx2 d_m_share_133 ?_
        refine vj_aload_n G (p9 := 0) d_m_share_134 rfl rfl ?_
        refine gfR_m_38 G d_m_share_135 ?_
        refine vj_aload_n G (p9 := 0) d_m_share_138 rfl rfl ?_
        refine gfR_m_19 G d_m_share_139 ?_
        refine vj_mr (fun hM10 => ?_)
        refine vj_iload_n G (p9 := 3) d_m_share_142 rfl rfl ?_
        obtain ⟨c11, hF⟩ := ck_some hF
        refine vj_iast G (x := ((mset (mset M 3 (M 0 3).toNat x1) 4 ((mset M 3 (M 0 3).toNat x1) 0 3).toNat x2) 0 3)) lkR_5 (by decide) (by decide) (by decide) c11 hx3 d_m_share_143 ?_
        refine vj_aload_n G (p9 := 0) d_m_share_144 rfl rfl ?_
        refine gfR_m_41 G d_m_share_145 ?_
        refine vj_aload_n G (p9 := 0) d_m_share_148 rfl rfl ?_
        refine gfR_m_19 G d_m_share_149 ?_
        refine vj_mr (fun hM12 => ?_)
        refine vj_iload G (p9 := 4) d_m_share_152 rfl ?_
        obtain ⟨c13, hF⟩ := ck_some hF
        refine vj_iast G (x := ((mset (mset (mset M 3 (M 0 3).toNat x1) 4 ((mset M 3 (M 0 3).toNat x1) 0 3).toNat x2) 5 ((mset (mset M 3 (M 0 3).toNat x1) 4 ((mset M 3 (M 0 3).toNat x1) 0 3).toNat x2) 0 3).toNat x3) 0 3)) lkR_6 (by decide) (by decide) (by decide) c13 hx4 d_m_share_154 ?_
        refine vj_aload_n G (p9 := 0) d_m_share_155 rfl rfl ?_
        refine gfR_m_47 G d_m_share_156 ?_
        refine vj_aload_n G (p9 := 0) d_m_share_159 rfl rfl ?_
        refine gfR_m_19 G d_m_share_160 ?_
        refine vj_mr (fun hM14 => ?_)
        refine vj_aload_n G (p9 := 0) d_m_share_163 rfl rfl ?_
        refine gfR_m_7 G d_m_share_164 ?_
        obtain ⟨c15, hF⟩ := ck_some hF
        refine vj_iast G (x := ((mset (mset (mset (mset M 3 (M 0 3).toNat x1) 4 ((mset M 3 (M 0 3).toNat x1) 0 3).toNat x2) 5 ((mset (mset M 3 (M 0 3).toNat x1) 4 ((mset M 3 (M 0 3).toNat x1) 0 3).toNat x2) 0 3).toNat x3) 6 ((mset (mset (mset M 3 (M 0 3).toNat x1) 4 ((mset M 3 (M 0 3).toNat x1) 0 3).toNat x2) 5 ((mset (mset M 3 (M 0 3).toNat x1) 4 ((mset M 3 (M 0 3).toNat x1) 0 3).toNat x2) 0 3).toNat x3) 0 3).toNat x4) 0 3)) lkR_8 (by decide) (by decide) (by decide) c15 (mr_o hM14 lkR_0 flR_0_0) d_m_share_167 ?_
        refine vj_aload_n G (p9 := 0) d_m_share_168 rfl rfl ?_
        refine vj_dup G d_m_share_169 rfl ?_
        refine gfR_m_19 G d_m_share_170 ?_
        refine vj_mr (fun hM16 => ?_)
        refine vj_iconst G (v := 1) d_m_share_173 rfl ?_
        refine vj_iadd G d_m_share_174 ?_
        refine pfR_m_19 G (ir_w _) d_m_share_175 ?_
        refine vj_aload_n G (p9 := 0) d_m_share_178 rfl rfl ?_
        refine gfR_m_19 G d_m_share_179 ?_
        refine vj_mr (fun hM17 => ?_)
        refine vj_iconst G (v := 1) d_m_share_182 rfl ?_
        refine vj_isub G d_m_share_183 ?_
        cases hF
        exact vj_iret G0 (ir_w _) d_m_share_184
      · rw [if_neg c5] at hF
        refine vj_bipush G (v := (-4)) d_m_share_111 rfl ?_
        cases hF
        exact vj_iret G0 ic_m4 d_m_share_113
    · rw [if_neg c3] at hF
      refine vj_bipush G (v := (-3)) d_m_share_99 rfl ?_
      cases hF
      exact vj_iret G0 ic_m3 d_m_share_101
  · rw [if_neg c2] at hF
    refine vj_iload G (p9 := 5) d_m_share_59 rfl ?_
    refine vj_aload_n G (p9 := 0) d_m_share_61 rfl rfl ?_
    refine gfR_m_32 G d_m_share_62 ?_
    refine vj_iload G (p9 := 6) d_m_share_65 rfl ?_
    obtain ⟨c18, hF⟩ := ck_some hF
    refine vj_iald G (x := x6) lkR_3 (by decide) c18 d_m_share_67 ?_
    refine vj_mr (fun hM19 => ?_)
    refine vj_iload_n G (p9 := 1) d_m_share_68 rfl rfl ?_
    refine vj_icmp_ne G (tgt := 82) d_m_share_69 (by decide) (mr_a hM19 lkR_3) hx1 (fun c20 => ?_) (fun c20 => ?_)
    · rw [if_pos c20] at hF
      refine vj_iconst G (v := 0) d_m_share_82 rfl ?_
      refine vj_sub [0, 1, 2, 3, 4, 6] rfl ?_
      exact wk_m_share_83 G0 n k50 hk50 x1 x2 x3 x4 x6 x5 0 hx1 hx2 hx3 hx4 hx6 hx5 ic_0 _ hF
    · rw [if_neg c20] at hF
      refine vj_aload_n G (p9 := 0) d_m_share_72 rfl rfl ?_
      refine gfR_m_38 G d_m_share_73 ?_
      refine vj_iload G (p9 := 6) d_m_share_76 rfl ?_
      obtain ⟨c21, hF⟩ := ck_some hF
      refine vj_iald G (x := x6) lkR_5 (by decide) c21 d_m_share_78 ?_
      refine vj_mr (fun hM22 => ?_)
      refine vj_goto G (tgt := 83) d_m_share_79 (by decide) ?_
      refine vj_sub [0, 1, 2, 3, 4, 6] rfl ?_
      exact wk_m_share_83 G0 n k50 hk50 x1 x2 x3 x4 x6 x5 (M 5 x6.toNat) hx1 hx2 hx3 hx4 hx6 hx5 (mr_a hM22 lkR_5) _ hF
set_option maxHeartbeats 4000000 in
set_option maxRecDepth 100000 in
theorem wl_m_share_50 {w : Wd} {X : Cx} {r : Int} {M9 : Mm} (G0 : Gx LR w X "WhoRulesModel" b_m_share 7 3 65 (some .int)) (n : Nat) : ∀ (f : Nat) (x1 x2 x3 x4 x5 x6 : Int) (hx1 : inR x1) (hx2 : inR x2) (hx3 : inR x3) (hx4 : inR x4) (hx5 : inR x5) (hx6 : inR x6) (M : Mm), lp_m_share_50 n f x1 x2 x3 x4 x5 x6 M = some (r, M9) → VJ LR w X 7 1 r M9 M [(0, .ref (wa w 0)), (1, .int (i32 x1)), (2, .int (i32 x2)), (3, .int (i32 x3)), (4, .int (i32 x4)), (5, .int (i32 x5)), (6, .int (i32 x6))] [] 50 := by
  intro f
  induction f with
  | zero => intro x1 x2 x3 x4 x5 x6 hx1 hx2 hx3 hx4 hx5 hx6 M hF; cases hF
  | succ f ih => intro x1 x2 x3 x4 x5 x6 hx1 hx2 hx3 hx4 hx5 hx6 M hF; exact wk_m_share_50 G0 n (lp_m_share_50 n f) ih x1 x2 x3 x4 x5 x6 hx1 hx2 hx3 hx4 hx5 hx6 M hF
set_option maxHeartbeats 4000000 in
set_option maxRecDepth 100000 in
theorem ct_m_share {w : Wd} (hij : ij LR w) (n : Nat) (x1 x2 x3 x4 : Int) (hx1 : inR x1) (hx2 : inR x2) (hx3 : inR x3) (hx4 : inR x4) {M : Mm} {r : Int} {M9 : Mm} (hF : f_m_share n x1 x2 x3 x4 M = some (r, M9)) : Ct LR w y_m_share b_m_share 7 (some .int) 3 65 1 [.ref (wa w 0), .int (i32 x1), .int (i32 x2), .int (i32 x3), .int (i32 x4)] M r M9 := by
  refine Ct.of hij KstR (by decide +kernel) (Nat.le_of_ble_eq_true rfl) (fun X G0 => ?_)
  have G := G0.1
  show VJ LR w X 7 1 r M9 M [(0, .ref (wa w 0)), (1, .int (i32 x1)), (2, .int (i32 x2)), (3, .int (i32 x3)), (4, .int (i32 x4))] [] 0
  unfold f_m_share at hF
  refine vj_aload_n G (p9 := 0) d_m_share_0 rfl rfl ?_
  refine vj_iload_n G (p9 := 1) d_m_share_1 rfl rfl ?_
  obtain ⟨r1, M1, e1, hF⟩ := bnd_some hF
  refine vj_callV3 G (ct_m_isFirm (gx_ij G) n x1 hx1 e1) lkR_0 clR_0 rfl q_1555 cq_m_isFirm rfl (by decide) (by decide) (Nat.le_of_ble_eq_true rfl) d_m_share_2 rfl (fun hr1 => ?_)
  refine vj_if_eq G (tgt := 16) d_m_share_5 (by decide) (ir_b hr1) (fun c2 => ?_) (fun c2 => ?_)
  · rw [if_pos c2] at hF
    refine vj_iconst G (v := (-1)) d_m_share_16 rfl ?_
    cases hF
    exact vj_iret G0 ic_m1 d_m_share_17
  · rw [if_neg c2] at hF
    refine vj_aload_n G (p9 := 0) d_m_share_8 rfl rfl ?_
    refine vj_iload_n G (p9 := 2) d_m_share_9 rfl rfl ?_
    obtain ⟨r3, M3, e3, hF⟩ := bnd_some hF
    refine vj_callV3 G (ct_m_isHolder (gx_ij G) n x2 hx2 e3) lkR_0 clR_0 rfl q_1559 cq_m_isHolder rfl (by decide) (by decide) (Nat.le_of_ble_eq_true rfl) d_m_share_10 rfl (fun hr3 => ?_)
    refine vj_if_ne G (tgt := 18) d_m_share_13 (by decide) (ir_b hr3) (fun c4 => ?_) (fun c4 => ?_)
    · rw [if_pos c4] at hF
      refine vj_aload_n G (p9 := 0) d_m_share_18 rfl rfl ?_
      refine vj_iload_n G (p9 := 3) d_m_share_19 rfl rfl ?_
      refine vj_iconst G (v := 0) d_m_share_20 rfl ?_
      refine vj_bipush G (v := 12) d_m_share_21 rfl ?_
      obtain ⟨r5, M5, e5, hF⟩ := bnd_some hF
      refine vj_callV3 G (ct_m_in (gx_ij G) n x3 0 12 hx3 ic_0 ic_12 e5) lkR_0 clR_0 rfl q_1543 cq_m_in rfl (by decide) (by decide) (Nat.le_of_ble_eq_true rfl) d_m_share_23 rfl (fun hr5 => ?_)
      refine vj_if_eq G (tgt := 41) d_m_share_26 (by decide) (ir_b hr5) (fun c6 => ?_) (fun c6 => ?_)
      · rw [if_pos c6] at hF
        refine vj_bipush G (v := (-2)) d_m_share_41 rfl ?_
        cases hF
        exact vj_iret G0 ic_m2 d_m_share_43
      · rw [if_neg c6] at hF
        refine vj_aload_n G (p9 := 0) d_m_share_29 rfl rfl ?_
        refine vj_iload G (p9 := 4) d_m_share_30 rfl ?_
        refine vj_iconst G (v := 0) d_m_share_32 rfl ?_
        refine vj_bipush G (v := 99) d_m_share_33 rfl ?_
        obtain ⟨r7, M7, e7, hF⟩ := bnd_some hF
        refine vj_callV3 G (ct_m_in (gx_ij G) n x4 0 99 hx4 ic_0 ic_99 e7) lkR_0 clR_0 rfl q_1543 cq_m_in rfl (by decide) (by decide) (Nat.le_of_ble_eq_true rfl) d_m_share_35 rfl (fun hr7 => ?_)
        refine vj_if_ne G (tgt := 44) d_m_share_38 (by decide) (ir_b hr7) (fun c8 => ?_) (fun c8 => ?_)
        · rw [if_pos c8] at hF
          refine vj_iload_n G (p9 := 3) d_m_share_44 rfl rfl ?_
          refine vj_istore G (lv2 := [(5, .int (i32 x3)), (0, .ref (wa w 0)), (1, .int (i32 x1)), (2, .int (i32 x2)), (3, .int (i32 x3)), (4, .int (i32 x4))]) d_m_share_45 (by decide) rfl ?_
          refine vj_iconst G (v := 0) d_m_share_47 rfl ?_
          refine vj_istore G (lv2 := [(6, .int (i32 0)), (5, .int (i32 x3)), (0, .ref (wa w 0)), (1, .int (i32 x1)), (2, .int (i32 x2)), (3, .int (i32 x3)), (4, .int (i32 x4))]) d_m_share_48 (by decide) rfl ?_
          refine vj_sub [2, 3, 4, 5, 6, 1, 0] rfl ?_
          exact wl_m_share_50 G0 n  n x1 x2 x3 x4 x3 0 hx1 hx2 hx3 hx4 hx3 ic_0 _ hF
        · rw [if_neg c8] at hF
          refine vj_bipush G (v := (-2)) d_m_share_41 rfl ?_
          cases hF
          exact vj_iret G0 ic_m2 d_m_share_43
    · rw [if_neg c4] at hF
      refine vj_iconst G (v := (-1)) d_m_share_16 rfl ?_
      cases hF
      exact vj_iret G0 ic_m1 d_m_share_17
set_option maxHeartbeats 4000000 in
set_option maxRecDepth 100000 in
theorem ct_m_price {w : Wd} (hij : ij LR w) (n : Nat) (x1 x2 : Int) (hx1 : inR x1) (hx2 : inR x2) {M : Mm} {r : Int} {M9 : Mm} (hF : f_m_price n x1 x2 M = some (r, M9)) : Ct LR w y_m_price b_m_price 4 (some .int) 2 44 1 [.ref (wa w 0), .int (i32 x1), .int (i32 x2)] M r M9 := by
  refine Ct.of hij KstR (by decide +kernel) (Nat.le_of_ble_eq_true rfl) (fun X G0 => ?_)
  have G := G0.1
  show VJ LR w X 4 1 r M9 M [(0, .ref (wa w 0)), (1, .int (i32 x1)), (2, .int (i32 x2))] [] 0
  unfold f_m_price at hF
  refine vj_aload_n G (p9 := 0) d_m_price_0 rfl rfl ?_
  refine vj_iload_n G (p9 := 1) d_m_price_1 rfl rfl ?_
  obtain ⟨r1, M1, e1, hF⟩ := bnd_some hF
  refine vj_callV3 G (ct_m_isShare (gx_ij G) n x1 hx1 e1) lkR_0 clR_0 rfl q_1567 cq_m_isShare rfl (by decide) (by decide) (Nat.le_of_ble_eq_true rfl) d_m_price_2 rfl (fun hr1 => ?_)
  refine vj_if_ne G (tgt := 10) d_m_price_5 (by decide) (ir_b hr1) (fun c2 => ?_) (fun c2 => ?_)
  · rw [if_pos c2] at hF
    refine vj_aload_n G (p9 := 0) d_m_price_10 rfl rfl ?_
    refine vj_iload_n G (p9 := 2) d_m_price_11 rfl rfl ?_
    refine vj_iconst G (v := 0) d_m_price_12 rfl ?_
    refine vj_sipush G (v := 999) d_m_price_13 rfl ?_
    obtain ⟨r3, M3, e3, hF⟩ := bnd_some hF
    refine vj_callV3 G (ct_m_in (gx_ij G) n x2 0 999 hx2 ic_0 ic_999 e3) lkR_0 clR_0 rfl q_1543 cq_m_in rfl (by decide) (by decide) (Nat.le_of_ble_eq_true rfl) d_m_price_16 rfl (fun hr3 => ?_)
    refine vj_if_ne G (tgt := 25) d_m_price_19 (by decide) (ir_b hr3) (fun c4 => ?_) (fun c4 => ?_)
    · rw [if_pos c4] at hF
      refine vj_aload_n G (p9 := 0) d_m_price_25 rfl rfl ?_
      refine gfR_m_44 G d_m_price_26 ?_
      refine vj_iload_n G (p9 := 1) d_m_price_29 rfl rfl ?_
      obtain ⟨c5, hF⟩ := ck_some hF
      refine vj_iald G (x := x1) lkR_7 (by decide) c5 d_m_price_30 ?_
      refine vj_mr (fun hM6 => ?_)
      refine vj_istore_n G (lv2 := [(3, .int (i32 (M3 7 x1.toNat))), (0, .ref (wa w 0)), (1, .int (i32 x1)), (2, .int (i32 x2))]) d_m_price_31 rfl (by decide) rfl ?_
      refine vj_aload_n G (p9 := 1) d_m_price_32 rfl rfl ?_
      refine gfR_m_44 G d_m_price_33 ?_
      refine vj_iload_n G (p9 := 2) d_m_price_36 rfl rfl ?_
      refine vj_iload_n G (p9 := 3) d_m_price_37 rfl rfl ?_
      obtain ⟨c7, hF⟩ := ck_some hF
      refine vj_iast G (x := x1) lkR_7 (by decide) (by decide) (by decide) c7 hx2 d_m_price_38 ?_
      refine vj_iload_n G (p9 := 0) d_m_price_39 rfl rfl ?_
      cases hF
      exact vj_iret G0 (mr_a hM6 lkR_7) d_m_price_40
    · rw [if_neg c4] at hF
      refine vj_bipush G (v := (-2)) d_m_price_22 rfl ?_
      cases hF
      exact vj_iret G0 ic_m2 d_m_price_24
  · rw [if_neg c2] at hF
    refine vj_iconst G (v := (-1)) d_m_price_8 rfl ?_
    cases hF
    exact vj_iret G0 ic_m1 d_m_price_9
set_option maxHeartbeats 4000000 in
set_option maxRecDepth 100000 in
theorem wk_m_findWhose_87 {w : Wd} {X : Cx} {r : Int} {M9 : Mm} (G0 : Gx LR w X "WhoRulesModel" b_m_findWhose 4 0 0 none) (n : Nat) (k36 : Int → Int → Int → Mm → Rr) (hk36 : ∀ (x1 x2 x3 : Int) (hx1 : inR x1) (hx2 : inR x2) (hx3 : inR x3) (M : Mm), k36 x1 x2 x3 M = some (r, M9) → VJ LR w X 4 0 r M9 M [(0, .ref (wa w 0)), (1, .int (i32 x1)), (2, .int (i32 x2)), (3, .int (i32 x3))] [] 36) (x1 x2 x3 : Int) (hx1 : inR x1) (hx2 : inR x2) (hx3 : inR x3) (M : Mm) (hF : f_m_findWhose_87 n k36 x1 x2 x3 M = some (r, M9)) : VJ LR w X 4 0 r M9 M [(0, .ref (wa w 0)), (1, .int (i32 x1)), (2, .int (i32 x2)), (3, .int (i32 x3))] [] 87 := by
  have G := G0.1
  unfold f_m_findWhose_87 at hF
  refine vj_iinc G (p9 := 3) (n := 1) (lv2 := [(3, .int (i32 (w32 (x3 + 1)))), (0, .ref (wa w 0)), (1, .int (i32 x1)), (2, .int (i32 x2))]) d_m_findWhose_87 rfl (by decide) rfl ?_
  refine vj_goto G (tgt := 36) d_m_findWhose_90 (by decide) ?_
  refine vj_sub [1, 2, 3, 0] rfl ?_
  exact hk36 x1 x2 (w32 (x3 + 1)) hx1 hx2 (ir_w _) _ hF
set_option maxHeartbeats 4000000 in
set_option maxRecDepth 100000 in
theorem wk_m_findWhose_36 {w : Wd} {X : Cx} {r : Int} {M9 : Mm} (G0 : Gx LR w X "WhoRulesModel" b_m_findWhose 4 0 0 none) (n : Nat) (k36 : Int → Int → Int → Mm → Rr) (hk36 : ∀ (x1 x2 x3 : Int) (hx1 : inR x1) (hx2 : inR x2) (hx3 : inR x3) (M : Mm), k36 x1 x2 x3 M = some (r, M9) → VJ LR w X 4 0 r M9 M [(0, .ref (wa w 0)), (1, .int (i32 x1)), (2, .int (i32 x2)), (3, .int (i32 x3))] [] 36) (x1 x2 x3 : Int) (hx1 : inR x1) (hx2 : inR x2) (hx3 : inR x3) (M : Mm) (hF : f_m_findWhose_36 n k36 x1 x2 x3 M = some (r, M9)) : VJ LR w X 4 0 r M9 M [(0, .ref (wa w 0)), (1, .int (i32 x1)), (2, .int (i32 x2)), (3, .int (i32 x3))] [] 36 := by
  have G := G0.1
  unfold f_m_findWhose_36 at hF
  refine vj_iload_n G (p9 := 3) d_m_findWhose_36 rfl rfl ?_
  refine vj_aload_n G (p9 := 0) d_m_findWhose_37 rfl rfl ?_
  refine gfR_m_22 G d_m_findWhose_38 ?_
  refine vj_mr (fun hM1 => ?_)
  refine vj_icmp_ge G (tgt := 93) d_m_findWhose_41 (by decide) hx3 (mr_o hM1 lkR_0 flR_0_4) (fun c2 => ?_) (fun c2 => ?_)
  · rw [if_pos c2] at hF
    cases hF
    exact vj_vret G0 d_m_findWhose_93
  · rw [if_neg c2] at hF
    refine vj_aload_n G (p9 := 0) d_m_findWhose_44 rfl rfl ?_
    refine gfR_m_50 G d_m_findWhose_45 ?_
    refine vj_iload_n G (p9 := 3) d_m_findWhose_48 rfl rfl ?_
    obtain ⟨c3, hF⟩ := ck_some hF
    refine vj_iald G (x := x3) lkR_9 (by decide) c3 d_m_findWhose_49 ?_
    refine vj_mr (fun hM4 => ?_)
    refine vj_iload_n G (p9 := 1) d_m_findWhose_50 rfl rfl ?_
    refine vj_icmp_ne G (tgt := 87) d_m_findWhose_51 (by decide) (mr_a hM4 lkR_9) hx1 (fun c5 => ?_) (fun c5 => ?_)
    · rw [if_pos c5] at hF
      exact wk_m_findWhose_87 G0 n k36 hk36 x1 x2 x3 hx1 hx2 hx3 _ hF
    · rw [if_neg c5] at hF
      refine vj_aload_n G (p9 := 0) d_m_findWhose_54 rfl rfl ?_
      refine gfR_m_56 G d_m_findWhose_55 ?_
      refine vj_iload_n G (p9 := 3) d_m_findWhose_58 rfl rfl ?_
      obtain ⟨c6, hF⟩ := ck_some hF
      refine vj_iald G (x := x3) lkR_11 (by decide) c6 d_m_findWhose_59 ?_
      refine vj_mr (fun hM7 => ?_)
      refine vj_iload_n G (p9 := 2) d_m_findWhose_60 rfl rfl ?_
      refine vj_icmp_le G (tgt := 67) d_m_findWhose_61 (by decide) (mr_a hM7 lkR_11) hx2 (fun c8 => ?_) (fun c8 => ?_)
      · rw [if_pos c8] at hF
        refine vj_aload_n G (p9 := 0) d_m_findWhose_67 rfl rfl ?_
        refine vj_aload_n G (p9 := 0) d_m_findWhose_68 rfl rfl ?_
        refine gfR_m_53 G d_m_findWhose_69 ?_
        refine vj_iload_n G (p9 := 3) d_m_findWhose_72 rfl rfl ?_
        obtain ⟨c9, hF⟩ := ck_some hF
        refine vj_iald G (x := x3) lkR_10 (by decide) c9 d_m_findWhose_73 ?_
        refine vj_mr (fun hM10 => ?_)
        refine pfR_m_59 G (mr_a hM10 lkR_10) d_m_findWhose_74 ?_
        refine vj_aload_n G (p9 := 0) d_m_findWhose_77 rfl rfl ?_
        refine vj_aload_n G (p9 := 0) d_m_findWhose_78 rfl rfl ?_
        refine gfR_m_56 G d_m_findWhose_79 ?_
        refine vj_iload_n G (p9 := 3) d_m_findWhose_82 rfl rfl ?_
        obtain ⟨c11, hF⟩ := ck_some hF
        refine vj_iald G (x := x3) lkR_11 (by decide) c11 d_m_findWhose_83 ?_
        refine vj_mr (fun hM12 => ?_)
        refine pfR_m_62 G (mr_a hM12 lkR_11) d_m_findWhose_84 ?_
        exact wk_m_findWhose_87 G0 n k36 hk36 x1 x2 x3 hx1 hx2 hx3 _ hF
      · rw [if_neg c8] at hF
        refine vj_goto G (tgt := 87) d_m_findWhose_64 (by decide) ?_
        exact wk_m_findWhose_87 G0 n k36 hk36 x1 x2 x3 hx1 hx2 hx3 _ hF
set_option maxHeartbeats 4000000 in
set_option maxRecDepth 100000 in
theorem wl_m_findWhose_36 {w : Wd} {X : Cx} {r : Int} {M9 : Mm} (G0 : Gx LR w X "WhoRulesModel" b_m_findWhose 4 0 0 none) (n : Nat) : ∀ (f : Nat) (x1 x2 x3 : Int) (hx1 : inR x1) (hx2 : inR x2) (hx3 : inR x3) (M : Mm), lp_m_findWhose_36 n f x1 x2 x3 M = some (r, M9) → VJ LR w X 4 0 r M9 M [(0, .ref (wa w 0)), (1, .int (i32 x1)), (2, .int (i32 x2)), (3, .int (i32 x3))] [] 36 := by
  intro f
  induction f with
  | zero => intro x1 x2 x3 hx1 hx2 hx3 M hF; cases hF
  | succ f ih => intro x1 x2 x3 hx1 hx2 hx3 M hF; exact wk_m_findWhose_36 G0 n (lp_m_findWhose_36 n f) ih x1 x2 x3 hx1 hx2 hx3 M hF
set_option maxHeartbeats 4000000 in
set_option maxRecDepth 100000 in
theorem wk_m_findWhose_21 {w : Wd} {X : Cx} {r : Int} {M9 : Mm} (G0 : Gx LR w X "WhoRulesModel" b_m_findWhose 4 0 0 none) (n : Nat) (x1 x2 s1 : Int) (hx1 : inR x1) (hx2 : inR x2) (hs1 : inR s1) (M : Mm) (hF : f_m_findWhose_21 n x1 x2 s1 M = some (r, M9)) : VJ LR w X 4 0 r M9 M [(0, .ref (wa w 0)), (1, .int (i32 x1)), (2, .int (i32 x2))] [.int (i32 s1), .ref (wa w 0)] 21 := by
  have G := G0.1
  unfold f_m_findWhose_21 at hF
  refine pfR_m_59 G hs1 d_m_findWhose_21 ?_
  refine vj_aload_n G (p9 := 0) d_m_findWhose_24 rfl rfl ?_
  refine vj_aload_n G (p9 := 0) d_m_findWhose_25 rfl rfl ?_
  refine gfR_m_47 G d_m_findWhose_26 ?_
  refine vj_iload_n G (p9 := 1) d_m_findWhose_29 rfl rfl ?_
  obtain ⟨c1, hF⟩ := ck_some hF
  refine vj_iald G (x := x1) lkR_8 (by decide) c1 d_m_findWhose_30 ?_
  refine vj_mr (fun hM2 => ?_)
  refine pfR_m_62 G (mr_a hM2 lkR_8) d_m_findWhose_31 ?_
  refine vj_iconst G (v := 0) d_m_findWhose_34 rfl ?_
  refine vj_istore_n G (lv2 := [(3, .int (i32 0)), (0, .ref (wa w 0)), (1, .int (i32 x1)), (2, .int (i32 x2))]) d_m_findWhose_35 rfl (by decide) rfl ?_
  refine vj_sub [1, 2, 3, 0] rfl ?_
  exact wl_m_findWhose_36 G0 n  n x1 x2 0 hx1 hx2 ic_0 _ hF
set_option maxHeartbeats 4000000 in
set_option maxRecDepth 100000 in
theorem ct_m_findWhose {w : Wd} (hij : ij LR w) (n : Nat) (x1 x2 : Int) (hx1 : inR x1) (hx2 : inR x2) {M : Mm} {r : Int} {M9 : Mm} (hF : f_m_findWhose n x1 x2 M = some (r, M9)) : Ct LR w y_m_findWhose b_m_findWhose 4 none 0 0 0 [.ref (wa w 0), .int (i32 x1), .int (i32 x2)] M r M9 := by
  refine Ct.of hij KstR (by decide +kernel) (Nat.le_of_ble_eq_true rfl) (fun X G0 => ?_)
  have G := G0.1
  show VJ LR w X 4 0 r M9 M [(0, .ref (wa w 0)), (1, .int (i32 x1)), (2, .int (i32 x2))] [] 0
  unfold f_m_findWhose at hF
  refine vj_aload_n G (p9 := 0) d_m_findWhose_0 rfl rfl ?_
  refine vj_iload_n G (p9 := 2) d_m_findWhose_1 rfl rfl ?_
  refine vj_aload_n G (p9 := 0) d_m_findWhose_2 rfl rfl ?_
  refine gfR_m_47 G d_m_findWhose_3 ?_
  refine vj_iload_n G (p9 := 1) d_m_findWhose_6 rfl rfl ?_
  obtain ⟨c1, hF⟩ := ck_some hF
  refine vj_iald G (x := x1) lkR_8 (by decide) c1 d_m_findWhose_7 ?_
  refine vj_mr (fun hM2 => ?_)
  refine vj_icmp_ge G (tgt := 15) d_m_findWhose_8 (by decide) hx2 (mr_a hM2 lkR_8) (fun c3 => ?_) (fun c3 => ?_)
  · rw [if_pos c3] at hF
    refine vj_aload_n G (p9 := 0) d_m_findWhose_15 rfl rfl ?_
    refine gfR_m_35 G d_m_findWhose_16 ?_
    refine vj_iload_n G (p9 := 1) d_m_findWhose_19 rfl rfl ?_
    obtain ⟨c4, hF⟩ := ck_some hF
    refine vj_iald G (x := x1) lkR_4 (by decide) c4 d_m_findWhose_20 ?_
    refine vj_mr (fun hM5 => ?_)
    exact wk_m_findWhose_21 G0 n  x1 x2 (M 4 x1.toNat) hx1 hx2 (mr_a hM5 lkR_4) _ hF
  · rw [if_neg c3] at hF
    refine vj_iconst G (v := (-1)) d_m_findWhose_11 rfl ?_
    refine vj_goto G (tgt := 21) d_m_findWhose_12 (by decide) ?_
    exact wk_m_findWhose_21 G0 n  x1 x2 (-1) hx1 hx2 ic_m1 _ hF
set_option maxHeartbeats 4000000 in
set_option maxRecDepth 100000 in
theorem ct_m_sale {w : Wd} (hij : ij LR w) (n : Nat) (x1 x2 : Int) (hx1 : inR x1) (hx2 : inR x2) {M : Mm} {r : Int} {M9 : Mm} (hF : f_m_sale n x1 x2 M = some (r, M9)) : Ct LR w y_m_sale b_m_sale 3 (some .int) 2 44 1 [.ref (wa w 0), .int (i32 x1), .int (i32 x2)] M r M9 := by
  refine Ct.of hij KstR (by decide +kernel) (Nat.le_of_ble_eq_true rfl) (fun X G0 => ?_)
  have G := G0.1
  show VJ LR w X 3 1 r M9 M [(0, .ref (wa w 0)), (1, .int (i32 x1)), (2, .int (i32 x2))] [] 0
  unfold f_m_sale at hF
  refine vj_aload_n G (p9 := 0) d_m_sale_0 rfl rfl ?_
  refine vj_iload_n G (p9 := 1) d_m_sale_1 rfl rfl ?_
  obtain ⟨r1, M1, e1, hF⟩ := bnd_some hF
  refine vj_callV3 G (ct_m_isShare (gx_ij G) n x1 hx1 e1) lkR_0 clR_0 rfl q_1567 cq_m_isShare rfl (by decide) (by decide) (Nat.le_of_ble_eq_true rfl) d_m_sale_2 rfl (fun hr1 => ?_)
  refine vj_if_eq G (tgt := 16) d_m_sale_5 (by decide) (ir_b hr1) (fun c2 => ?_) (fun c2 => ?_)
  · rw [if_pos c2] at hF
    refine vj_iconst G (v := (-1)) d_m_sale_16 rfl ?_
    cases hF
    exact vj_iret G0 ic_m1 d_m_sale_17
  · rw [if_neg c2] at hF
    refine vj_aload_n G (p9 := 0) d_m_sale_8 rfl rfl ?_
    refine vj_iload_n G (p9 := 2) d_m_sale_9 rfl rfl ?_
    obtain ⟨r3, M3, e3, hF⟩ := bnd_some hF
    refine vj_callV3 G (ct_m_isHolder (gx_ij G) n x2 hx2 e3) lkR_0 clR_0 rfl q_1559 cq_m_isHolder rfl (by decide) (by decide) (Nat.le_of_ble_eq_true rfl) d_m_sale_10 rfl (fun hr3 => ?_)
    refine vj_if_ne G (tgt := 18) d_m_sale_13 (by decide) (ir_b hr3) (fun c4 => ?_) (fun c4 => ?_)
    · rw [if_pos c4] at hF
      refine vj_aload_n G (p9 := 0) d_m_sale_18 rfl rfl ?_
      refine vj_iload_n G (p9 := 1) d_m_sale_19 rfl rfl ?_
      refine vj_aload_n G (p9 := 0) d_m_sale_20 rfl rfl ?_
      refine gfR_m_7 G d_m_sale_21 ?_
      refine vj_mr (fun hM5 => ?_)
      obtain ⟨r6, M6, e6, hF⟩ := bnd_some hF
      refine vj_callV0 G (ct_m_findWhose (gx_ij G) n x1 (M3 0 0) hx1 (mr_o hM5 lkR_0 flR_0_0) e6) lkR_0 clR_0 rfl q_1575 cq_m_findWhose rfl (by decide) (by decide) (Nat.le_of_ble_eq_true rfl) d_m_sale_24 rfl (fun hr6 => ?_)
      refine vj_aload_n G (p9 := 0) d_m_sale_27 rfl rfl ?_
      refine gfR_m_59 G d_m_sale_28 ?_
      refine vj_mr (fun hM7 => ?_)
      refine vj_iload_n G (p9 := 2) d_m_sale_31 rfl rfl ?_
      refine vj_icmp_ne G (tgt := 38) d_m_sale_32 (by decide) (mr_o hM7 lkR_0 flR_0_16) hx2 (fun c8 => ?_) (fun c8 => ?_)
      · rw [if_pos c8] at hF
        refine vj_aload_n G (p9 := 0) d_m_sale_38 rfl rfl ?_
        refine gfR_m_22 G d_m_sale_39 ?_
        refine vj_mr (fun hM9 => ?_)
        refine vj_bipush G (v := 120) d_m_sale_42 rfl ?_
        refine vj_icmp_ne G (tgt := 50) d_m_sale_44 (by decide) (mr_o hM9 lkR_0 flR_0_4) ic_120 (fun c10 => ?_) (fun c10 => ?_)
        · rw [if_pos c10] at hF
          refine vj_aload_n G (p9 := 0) d_m_sale_50 rfl rfl ?_
          refine gfR_m_50 G d_m_sale_51 ?_
          refine vj_aload_n G (p9 := 0) d_m_sale_54 rfl rfl ?_
          refine gfR_m_22 G d_m_sale_55 ?_
          refine vj_mr (fun hM11 => ?_)
          refine vj_iload_n G (p9 := 1) d_m_sale_58 rfl rfl ?_
          obtain ⟨c12, hF⟩ := ck_some hF
          refine vj_iast G (x := (M6 0 4)) lkR_9 (by decide) (by decide) (by decide) c12 hx1 d_m_sale_59 ?_
          refine vj_aload_n G (p9 := 0) d_m_sale_60 rfl rfl ?_
          refine gfR_m_53 G d_m_sale_61 ?_
          refine vj_aload_n G (p9 := 0) d_m_sale_64 rfl rfl ?_
          refine gfR_m_22 G d_m_sale_65 ?_
          refine vj_mr (fun hM13 => ?_)
          refine vj_iload_n G (p9 := 2) d_m_sale_68 rfl rfl ?_
          obtain ⟨c14, hF⟩ := ck_some hF
          refine vj_iast G (x := ((mset M6 9 (M6 0 4).toNat x1) 0 4)) lkR_10 (by decide) (by decide) (by decide) c14 hx2 d_m_sale_69 ?_
          refine vj_aload_n G (p9 := 0) d_m_sale_70 rfl rfl ?_
          refine gfR_m_56 G d_m_sale_71 ?_
          refine vj_aload_n G (p9 := 0) d_m_sale_74 rfl rfl ?_
          refine gfR_m_22 G d_m_sale_75 ?_
          refine vj_mr (fun hM15 => ?_)
          refine vj_aload_n G (p9 := 0) d_m_sale_78 rfl rfl ?_
          refine gfR_m_7 G d_m_sale_79 ?_
          obtain ⟨c16, hF⟩ := ck_some hF
          refine vj_iast G (x := ((mset (mset M6 9 (M6 0 4).toNat x1) 10 ((mset M6 9 (M6 0 4).toNat x1) 0 4).toNat x2) 0 4)) lkR_11 (by decide) (by decide) (by decide) c16 (mr_o hM15 lkR_0 flR_0_0) d_m_sale_82 ?_
          refine vj_aload_n G (p9 := 0) d_m_sale_83 rfl rfl ?_
          refine vj_dup G d_m_sale_84 rfl ?_
          refine gfR_m_22 G d_m_sale_85 ?_
          refine vj_mr (fun hM17 => ?_)
          refine vj_iconst G (v := 1) d_m_sale_88 rfl ?_
          refine vj_iadd G d_m_sale_89 ?_
          refine pfR_m_22 G (ir_w _) d_m_sale_90 ?_
          refine vj_aload_n G (p9 := 0) d_m_sale_93 rfl rfl ?_
          refine gfR_m_22 G d_m_sale_94 ?_
          refine vj_mr (fun hM18 => ?_)
          cases hF
          exact vj_iret G0 (mr_o hM18 lkR_0 flR_0_4) d_m_sale_97
        · rw [if_neg c10] at hF
          refine vj_bipush G (v := (-4)) d_m_sale_47 rfl ?_
          cases hF
          exact vj_iret G0 ic_m4 d_m_sale_49
      · rw [if_neg c8] at hF
        refine vj_bipush G (v := (-3)) d_m_sale_35 rfl ?_
        cases hF
        exact vj_iret G0 ic_m3 d_m_sale_37
    · rw [if_neg c4] at hF
      refine vj_iconst G (v := (-1)) d_m_sale_16 rfl ?_
      cases hF
      exact vj_iret G0 ic_m1 d_m_sale_17
set_option maxHeartbeats 4000000 in
set_option maxRecDepth 100000 in
theorem ct_m_of {w : Wd} (hij : ij LR w) (n : Nat) (x1 x2 : Int) (hx1 : inR x1) (hx2 : inR x2) {M : Mm} {r : Int} {M9 : Mm} (hF : f_m_of n x1 x2 M = some (r, M9)) : Ct LR w y_m_of b_m_of 3 (some .int) 2 44 1 [.ref (wa w 0), .int (i32 x1), .int (i32 x2)] M r M9 := by
  refine Ct.of hij KstR (by decide +kernel) (Nat.le_of_ble_eq_true rfl) (fun X G0 => ?_)
  have G := G0.1
  show VJ LR w X 3 1 r M9 M [(0, .ref (wa w 0)), (1, .int (i32 x1)), (2, .int (i32 x2))] [] 0
  unfold f_m_of at hF
  refine vj_aload_n G (p9 := 0) d_m_of_0 rfl rfl ?_
  refine vj_iload_n G (p9 := 1) d_m_of_1 rfl rfl ?_
  obtain ⟨r1, M1, e1, hF⟩ := bnd_some hF
  refine vj_callV3 G (ct_m_isShare (gx_ij G) n x1 hx1 e1) lkR_0 clR_0 rfl q_1567 cq_m_isShare rfl (by decide) (by decide) (Nat.le_of_ble_eq_true rfl) d_m_of_2 rfl (fun hr1 => ?_)
  refine vj_if_ne G (tgt := 10) d_m_of_5 (by decide) (ir_b hr1) (fun c2 => ?_) (fun c2 => ?_)
  · rw [if_pos c2] at hF
    refine vj_iload_n G (p9 := 2) d_m_of_10 rfl rfl ?_
    by_cases c3 : x2 = 0
    · rw [if_pos c3] at hF
      refine vj_swIn G (y := 0) (tgt := 40) d_m_of_11 hx2 c3 (by decide) (by decide) rfl (by decide) ?_
      refine vj_aload_n G (p9 := 0) d_m_of_40 rfl rfl ?_
      refine gfR_m_32 G d_m_of_41 ?_
      refine vj_iload_n G (p9 := 1) d_m_of_44 rfl rfl ?_
      obtain ⟨c4, hF⟩ := ck_some hF
      refine vj_iald G (x := x1) lkR_3 (by decide) c4 d_m_of_45 ?_
      refine vj_mr (fun hM5 => ?_)
      cases hF
      exact vj_iret G0 (mr_a hM5 lkR_3) d_m_of_46
    · rw [if_neg c3] at hF
      by_cases c6 : x2 = 1
      · rw [if_pos c6] at hF
        refine vj_swIn G (y := 1) (tgt := 47) d_m_of_11 hx2 c6 (by decide) (by decide) rfl (by decide) ?_
        refine vj_aload_n G (p9 := 0) d_m_of_47 rfl rfl ?_
        refine gfR_m_38 G d_m_of_48 ?_
        refine vj_iload_n G (p9 := 1) d_m_of_51 rfl rfl ?_
        obtain ⟨c7, hF⟩ := ck_some hF
        refine vj_iald G (x := x1) lkR_5 (by decide) c7 d_m_of_52 ?_
        refine vj_mr (fun hM8 => ?_)
        cases hF
        exact vj_iret G0 (mr_a hM8 lkR_5) d_m_of_53
      · rw [if_neg c6] at hF
        by_cases c9 : x2 = 2
        · rw [if_pos c9] at hF
          refine vj_swIn G (y := 2) (tgt := 54) d_m_of_11 hx2 c9 (by decide) (by decide) rfl (by decide) ?_
          refine vj_aload_n G (p9 := 0) d_m_of_54 rfl rfl ?_
          refine gfR_m_41 G d_m_of_55 ?_
          refine vj_iload_n G (p9 := 1) d_m_of_58 rfl rfl ?_
          obtain ⟨c10, hF⟩ := ck_some hF
          refine vj_iald G (x := x1) lkR_6 (by decide) c10 d_m_of_59 ?_
          refine vj_mr (fun hM11 => ?_)
          cases hF
          exact vj_iret G0 (mr_a hM11 lkR_6) d_m_of_60
        · rw [if_neg c9] at hF
          by_cases c12 : x2 = 3
          · rw [if_pos c12] at hF
            refine vj_swIn G (y := 3) (tgt := 61) d_m_of_11 hx2 c12 (by decide) (by decide) rfl (by decide) ?_
            refine vj_aload_n G (p9 := 0) d_m_of_61 rfl rfl ?_
            refine gfR_m_44 G d_m_of_62 ?_
            refine vj_iload_n G (p9 := 1) d_m_of_65 rfl rfl ?_
            obtain ⟨c13, hF⟩ := ck_some hF
            refine vj_iald G (x := x1) lkR_7 (by decide) c13 d_m_of_66 ?_
            refine vj_mr (fun hM14 => ?_)
            cases hF
            exact vj_iret G0 (mr_a hM14 lkR_7) d_m_of_67
          · rw [if_neg c12] at hF
            refine vj_swOut G (tgt := 68) d_m_of_11 hx2 (by omega) (by decide) ?_
            refine vj_iconst G (v := (-1)) d_m_of_68 rfl ?_
            cases hF
            exact vj_iret G0 ic_m1 d_m_of_69
  · rw [if_neg c2] at hF
    refine vj_iconst G (v := (-1)) d_m_of_8 rfl ?_
    cases hF
    exact vj_iret G0 ic_m1 d_m_of_9
set_option maxHeartbeats 4000000 in
set_option maxRecDepth 100000 in
theorem ct_m_held {w : Wd} (hij : ij LR w) (n : Nat) (x1 x2 x3 : Int) (hx1 : inR x1) (hx2 : inR x2) (hx3 : inR x3) {M : Mm} {r : Int} {M9 : Mm} (hF : f_m_held n x1 x2 x3 M = some (r, M9)) : Ct LR w y_m_held b_m_held 4 (some .int) 2 44 1 [.ref (wa w 0), .int (i32 x1), .int (i32 x2), .int (i32 x3)] M r M9 := by
  refine Ct.of hij KstR (by decide +kernel) (Nat.le_of_ble_eq_true rfl) (fun X G0 => ?_)
  have G := G0.1
  show VJ LR w X 4 1 r M9 M [(0, .ref (wa w 0)), (1, .int (i32 x1)), (2, .int (i32 x2)), (3, .int (i32 x3))] [] 0
  unfold f_m_held at hF
  refine vj_aload_n G (p9 := 0) d_m_held_0 rfl rfl ?_
  refine vj_iload_n G (p9 := 1) d_m_held_1 rfl rfl ?_
  obtain ⟨r1, M1, e1, hF⟩ := bnd_some hF
  refine vj_callV3 G (ct_m_isShare (gx_ij G) n x1 hx1 e1) lkR_0 clR_0 rfl q_1567 cq_m_isShare rfl (by decide) (by decide) (Nat.le_of_ble_eq_true rfl) d_m_held_2 rfl (fun hr1 => ?_)
  refine vj_if_eq G (tgt := 26) d_m_held_5 (by decide) (ir_b hr1) (fun c2 => ?_) (fun c2 => ?_)
  · rw [if_pos c2] at hF
    refine vj_iconst G (v := (-1)) d_m_held_26 rfl ?_
    cases hF
    exact vj_iret G0 ic_m1 d_m_held_27
  · rw [if_neg c2] at hF
    refine vj_aload_n G (p9 := 0) d_m_held_8 rfl rfl ?_
    refine vj_iload_n G (p9 := 2) d_m_held_9 rfl rfl ?_
    obtain ⟨r3, M3, e3, hF⟩ := bnd_some hF
    refine vj_callV3 G (ct_m_isDay (gx_ij G) n x2 hx2 e3) lkR_0 clR_0 rfl q_1587 cq_m_isDay rfl (by decide) (by decide) (Nat.le_of_ble_eq_true rfl) d_m_held_10 rfl (fun hr3 => ?_)
    refine vj_if_eq G (tgt := 26) d_m_held_13 (by decide) (ir_b hr3) (fun c4 => ?_) (fun c4 => ?_)
    · rw [if_pos c4] at hF
      refine vj_iconst G (v := (-1)) d_m_held_26 rfl ?_
      cases hF
      exact vj_iret G0 ic_m1 d_m_held_27
    · rw [if_neg c4] at hF
      refine vj_aload_n G (p9 := 0) d_m_held_16 rfl rfl ?_
      refine vj_iload_n G (p9 := 3) d_m_held_17 rfl rfl ?_
      refine vj_iconst G (v := 0) d_m_held_18 rfl ?_
      refine vj_iconst G (v := 1) d_m_held_19 rfl ?_
      obtain ⟨r5, M5, e5, hF⟩ := bnd_some hF
      refine vj_callV3 G (ct_m_in (gx_ij G) n x3 0 1 hx3 ic_0 ic_1 e5) lkR_0 clR_0 rfl q_1543 cq_m_in rfl (by decide) (by decide) (Nat.le_of_ble_eq_true rfl) d_m_held_20 rfl (fun hr5 => ?_)
      refine vj_if_ne G (tgt := 28) d_m_held_23 (by decide) (ir_b hr5) (fun c6 => ?_) (fun c6 => ?_)
      · rw [if_pos c6] at hF
        refine vj_aload_n G (p9 := 0) d_m_held_28 rfl rfl ?_
        refine vj_iload_n G (p9 := 1) d_m_held_29 rfl rfl ?_
        refine vj_iload_n G (p9 := 2) d_m_held_30 rfl rfl ?_
        obtain ⟨r7, M7, e7, hF⟩ := bnd_some hF
        refine vj_callV0 G (ct_m_findWhose (gx_ij G) n x1 x2 hx1 hx2 e7) lkR_0 clR_0 rfl q_1575 cq_m_findWhose rfl (by decide) (by decide) (Nat.le_of_ble_eq_true rfl) d_m_held_31 rfl (fun hr7 => ?_)
        refine vj_aload_n G (p9 := 0) d_m_held_34 rfl rfl ?_
        refine gfR_m_59 G d_m_held_35 ?_
        refine vj_mr (fun hM8 => ?_)
        refine vj_if_ge G (tgt := 46) d_m_held_38 (by decide) (mr_o hM8 lkR_0 flR_0_16) (fun c9 => ?_) (fun c9 => ?_)
        · rw [if_pos c9] at hF
          refine vj_iload_n G (p9 := 3) d_m_held_46 rfl rfl ?_
          refine vj_if_ne G (tgt := 57) d_m_held_47 (by decide) hx3 (fun c10 => ?_) (fun c10 => ?_)
          · rw [if_pos c10] at hF
            refine vj_aload_n G (p9 := 0) d_m_held_57 rfl rfl ?_
            refine gfR_m_62 G d_m_held_58 ?_
            refine vj_mr (fun hM11 => ?_)
            cases hF
            exact vj_iret G0 (mr_o hM11 lkR_0 flR_0_17) d_m_held_61
          · rw [if_neg c10] at hF
            refine vj_aload_n G (p9 := 0) d_m_held_50 rfl rfl ?_
            refine gfR_m_59 G d_m_held_51 ?_
            refine vj_mr (fun hM12 => ?_)
            refine vj_goto G (tgt := 61) d_m_held_54 (by decide) ?_
            cases hF
            exact vj_iret G0 (mr_o hM12 lkR_0 flR_0_16) d_m_held_61
        · rw [if_neg c9] at hF
          refine vj_bipush G (v := (-5)) d_m_held_41 rfl ?_
          refine vj_goto G (tgt := 61) d_m_held_43 (by decide) ?_
          cases hF
          exact vj_iret G0 ic_m5 d_m_held_61
      · rw [if_neg c6] at hF
        refine vj_iconst G (v := (-1)) d_m_held_26 rfl ?_
        cases hF
        exact vj_iret G0 ic_m1 d_m_held_27
set_option maxHeartbeats 4000000 in
set_option maxRecDepth 100000 in
theorem wk_m_feed_31 {w : Wd} {X : Cx} {r : Int} {M9 : Mm} (G0 : Gx LR w X "WhoRulesModel" b_m_feed 4 1 23 (some .int)) (n : Nat) (k31 : Int → Int → Mm → Rr) (hk31 : ∀ (x1 x3 : Int) (hx1 : inR x1) (hx3 : inR x3) (M : Mm), k31 x1 x3 M = some (r, M9) → VJ LR w X 4 1 r M9 M [(0, .ref (wa w 0)), (1, .int (i32 x1)), (3, .int (i32 x3))] [] 31) (x1 x3 : Int) (hx1 : inR x1) (hx3 : inR x3) (M : Mm) (hF : f_m_feed_31 n k31 x1 x3 M = some (r, M9)) : VJ LR w X 4 1 r M9 M [(0, .ref (wa w 0)), (1, .int (i32 x1)), (3, .int (i32 x3))] [] 31 := by
  have G := G0.1
  unfold f_m_feed_31 at hF
  refine vj_iload_n G (p9 := 2) d_m_feed_31 rfl rfl ?_
  refine vj_if_lt G (tgt := 71) d_m_feed_32 (by decide) hx3 (fun c1 => ?_) (fun c1 => ?_)
  · rw [if_pos c1] at hF
    refine vj_aload_n G (p9 := 0) d_m_feed_71 rfl rfl ?_
    refine gfR_m_68 G d_m_feed_72 ?_
    refine vj_mr (fun hM2 => ?_)
    cases hF
    exact vj_iret G0 (mr_o hM2 lkR_0 flR_0_19) d_m_feed_75
  · rw [if_neg c1] at hF
    refine vj_aload_n G (p9 := 0) d_m_feed_35 rfl rfl ?_
    refine gfR_m_77 G d_m_feed_36 ?_
    refine vj_sipush G (v := 2000) d_m_feed_39 rfl ?_
    refine vj_aload_n G (p9 := 0) d_m_feed_42 rfl rfl ?_
    refine gfR_m_68 G d_m_feed_43 ?_
    refine vj_mr (fun hM3 => ?_)
    refine vj_iadd G d_m_feed_46 ?_
    refine vj_iload_n G (p9 := 1) d_m_feed_47 rfl rfl ?_
    refine vj_bipush G (v := 8) d_m_feed_48 rfl ?_
    refine vj_iload_n G (p9 := 2) d_m_feed_50 rfl rfl ?_
    refine vj_imul G d_m_feed_51 ?_
    refine vj_ishr G d_m_feed_52 ?_
    refine vj_i2b G d_m_feed_53 ?_
    obtain ⟨c4, hF⟩ := ck_some hF
    refine vj_iast G (x := w32 (2000 + (M 0 19))) lkR_14 (by decide) (by decide) (by decide) c4 (ir_w8 _) d_m_feed_54 ?_
    refine vj_aload_n G (p9 := 0) d_m_feed_55 rfl rfl ?_
    refine vj_dup G d_m_feed_56 rfl ?_
    refine gfR_m_68 G d_m_feed_57 ?_
    refine vj_mr (fun hM5 => ?_)
    refine vj_iconst G (v := 1) d_m_feed_60 rfl ?_
    refine vj_iadd G d_m_feed_61 ?_
    refine pfR_m_68 G (ir_w _) d_m_feed_62 ?_
    refine vj_iinc G (p9 := 2) (n := (-1)) (lv2 := [(3, .int (i32 (w32 (x3 + (-1))))), (0, .ref (wa w 0)), (1, .int (i32 x1))]) d_m_feed_65 rfl (by decide) rfl ?_
    refine vj_goto G (tgt := 31) d_m_feed_68 (by decide) ?_
    refine vj_sub [1, 2, 0] rfl ?_
    exact hk31 x1 (w32 (x3 + (-1))) hx1 (ir_w _) _ hF
set_option maxHeartbeats 4000000 in
set_option maxRecDepth 100000 in
theorem wl_m_feed_31 {w : Wd} {X : Cx} {r : Int} {M9 : Mm} (G0 : Gx LR w X "WhoRulesModel" b_m_feed 4 1 23 (some .int)) (n : Nat) : ∀ (f : Nat) (x1 x3 : Int) (hx1 : inR x1) (hx3 : inR x3) (M : Mm), lp_m_feed_31 n f x1 x3 M = some (r, M9) → VJ LR w X 4 1 r M9 M [(0, .ref (wa w 0)), (1, .int (i32 x1)), (3, .int (i32 x3))] [] 31 := by
  intro f
  induction f with
  | zero => intro x1 x3 hx1 hx3 M hF; cases hF
  | succ f ih => intro x1 x3 hx1 hx3 M hF; exact wk_m_feed_31 G0 n (lp_m_feed_31 n f) ih x1 x3 hx1 hx3 M hF
set_option maxHeartbeats 4000000 in
set_option maxRecDepth 100000 in
theorem ct_m_feed {w : Wd} (hij : ij LR w) (n : Nat) (x1 x2 : Int) (hx1 : inR x1) (hx2 : inR x2) {M : Mm} {r : Int} {M9 : Mm} (hF : f_m_feed n x1 x2 M = some (r, M9)) : Ct LR w y_m_feed b_m_feed 4 (some .int) 1 23 1 [.ref (wa w 0), .int (i32 x1), .int (i32 x2)] M r M9 := by
  refine Ct.of hij KstR (by decide +kernel) (Nat.le_of_ble_eq_true rfl) (fun X G0 => ?_)
  have G := G0.1
  show VJ LR w X 4 1 r M9 M [(0, .ref (wa w 0)), (1, .int (i32 x1)), (2, .int (i32 x2))] [] 0
  unfold f_m_feed at hF
  refine vj_aload_n G (p9 := 0) d_m_feed_0 rfl rfl ?_
  refine vj_iload_n G (p9 := 2) d_m_feed_1 rfl rfl ?_
  refine vj_iconst G (v := 0) d_m_feed_2 rfl ?_
  refine vj_iconst G (v := 4) d_m_feed_3 rfl ?_
  obtain ⟨r1, M1, e1, hF⟩ := bnd_some hF
  refine vj_callV3 G (ct_m_in (gx_ij G) n x2 0 4 hx2 ic_0 ic_4 e1) lkR_0 clR_0 rfl q_1543 cq_m_in rfl (by decide) (by decide) (Nat.le_of_ble_eq_true rfl) d_m_feed_4 rfl (fun hr1 => ?_)
  refine vj_if_ne G (tgt := 13) d_m_feed_7 (by decide) (ir_b hr1) (fun c2 => ?_) (fun c2 => ?_)
  · rw [if_pos c2] at hF
    refine vj_aload_n G (p9 := 0) d_m_feed_13 rfl rfl ?_
    refine gfR_m_68 G d_m_feed_14 ?_
    refine vj_mr (fun hM3 => ?_)
    refine vj_iload_n G (p9 := 2) d_m_feed_17 rfl rfl ?_
    refine vj_iadd G d_m_feed_18 ?_
    refine vj_bipush G (v := 100) d_m_feed_19 rfl ?_
    refine vj_icmp_le G (tgt := 27) d_m_feed_21 (by decide) (ir_w _) ic_100 (fun c4 => ?_) (fun c4 => ?_)
    · rw [if_pos c4] at hF
      refine vj_iload_n G (p9 := 2) d_m_feed_27 rfl rfl ?_
      refine vj_iconst G (v := 1) d_m_feed_28 rfl ?_
      refine vj_isub G d_m_feed_29 ?_
      refine vj_istore_n G (lv2 := [(3, .int (i32 (w32 (x2 - 1)))), (0, .ref (wa w 0)), (1, .int (i32 x1)), (2, .int (i32 x2))]) d_m_feed_30 rfl (by decide) rfl ?_
      refine vj_sub [1, 2, 0] rfl ?_
      exact wl_m_feed_31 G0 n  n x1 (w32 (x2 - 1)) hx1 (ir_w _) _ hF
    · rw [if_neg c4] at hF
      refine vj_bipush G (v := (-4)) d_m_feed_24 rfl ?_
      cases hF
      exact vj_iret G0 ic_m4 d_m_feed_26
  · rw [if_neg c2] at hF
    refine vj_bipush G (v := (-2)) d_m_feed_10 rfl ?_
    cases hF
    exact vj_iret G0 ic_m2 d_m_feed_12
set_option maxHeartbeats 4000000 in
set_option maxRecDepth 100000 in
theorem ct_m_next {w : Wd} (hij : ij LR w) (n : Nat) {M : Mm} {r : Int} {M9 : Mm} (hF : f_m_next n  M = some (r, M9)) : Ct LR w y_m_next b_m_next 1 (some .int) 0 0 1 [.ref (wa w 0)] M r M9 := by
  refine Ct.of hij KstR (by decide +kernel) (Nat.le_of_ble_eq_true rfl) (fun X G0 => ?_)
  have G := G0.1
  show VJ LR w X 1 1 r M9 M [(0, .ref (wa w 0))] [] 0
  unfold f_m_next at hF
  refine vj_aload_n G (p9 := 0) d_m_next_0 rfl rfl ?_
  refine gfR_m_105 G d_m_next_1 ?_
  refine vj_mr (fun hM1 => ?_)
  refine vj_aload_n G (p9 := 0) d_m_next_4 rfl rfl ?_
  refine gfR_m_102 G d_m_next_5 ?_
  refine vj_icmp_ge G (tgt := 28) d_m_next_8 (by decide) (mr_o hM1 lkR_0 flR_0_31) (mr_o hM1 lkR_0 flR_0_30) (fun c2 => ?_) (fun c2 => ?_)
  · rw [if_pos c2] at hF
    refine vj_iconst G (v := (-1)) d_m_next_28 rfl ?_
    cases hF
    exact vj_iret G0 ic_m1 d_m_next_29
  · rw [if_neg c2] at hF
    refine vj_aload_n G (p9 := 0) d_m_next_11 rfl rfl ?_
    refine gfR_m_77 G d_m_next_12 ?_
    refine vj_aload_n G (p9 := 0) d_m_next_15 rfl rfl ?_
    refine gfR_m_99 G d_m_next_16 ?_
    refine vj_mr (fun hM3 => ?_)
    refine vj_aload_n G (p9 := 0) d_m_next_19 rfl rfl ?_
    refine gfR_m_105 G d_m_next_20 ?_
    refine vj_iadd G d_m_next_23 ?_
    obtain ⟨c4, hF⟩ := ck_some hF
    refine vj_iald G (x := w32 ((M 0 29) + (M 0 31))) lkR_14 (by decide) c4 d_m_next_24 ?_
    refine vj_goto G (tgt := 29) d_m_next_25 (by decide) ?_
    cases hF
    exact vj_iret G0 (mr_a hM3 lkR_14) d_m_next_29
set_option maxHeartbeats 4000000 in
set_option maxRecDepth 100000 in
theorem ct_m_isDigit {w : Wd} (hij : ij LR w) (n : Nat) {M : Mm} {r : Int} {M9 : Mm} (hF : f_m_isDigit n  M = some (r, M9)) : Ct LR w y_m_isDigit b_m_isDigit 1 (some .boolean) 1 23 3 [.ref (wa w 0)] M r M9 := by
  refine Ct.of hij KstR (by decide +kernel) (Nat.le_of_ble_eq_true rfl) (fun X G0 => ?_)
  have G := G0.1
  show VJ LR w X 1 3 r M9 M [(0, .ref (wa w 0))] [] 0
  unfold f_m_isDigit at hF
  refine vj_aload_n G (p9 := 0) d_m_isDigit_0 rfl rfl ?_
  refine vj_aload_n G (p9 := 0) d_m_isDigit_1 rfl rfl ?_
  obtain ⟨r1, M1, e1, hF⟩ := bnd_some hF
  refine vj_callV1 G (ct_m_next (gx_ij G) n   e1) lkR_0 clR_0 rfl q_1607 cq_m_next rfl (by decide) (by decide) (Nat.le_of_ble_eq_true rfl) d_m_isDigit_2 rfl (fun hr1 => ?_)
  refine vj_bipush G (v := 48) d_m_isDigit_5 rfl ?_
  refine vj_bipush G (v := 57) d_m_isDigit_7 rfl ?_
  obtain ⟨r2, M2, e2, hF⟩ := bnd_some hF
  refine vj_callV3 G (ct_m_in (gx_ij G) n r1 48 57 hr1 ic_48 ic_57 e2) lkR_0 clR_0 rfl q_1543 cq_m_in rfl (by decide) (by decide) (Nat.le_of_ble_eq_true rfl) d_m_isDigit_9 rfl (fun hr2 => ?_)
  cases hF
  exact vj_zret G0 hr2 d_m_isDigit_12
set_option maxHeartbeats 4000000 in
set_option maxRecDepth 100000 in
theorem ct_m_takes {w : Wd} (hij : ij LR w) (n : Nat) (x1 : Int) (hx1 : inR x1) {M : Mm} {r : Int} {M9 : Mm} (hF : f_m_takes n x1 M = some (r, M9)) : Ct LR w y_m_takes b_m_takes 2 (some .boolean) 1 20 3 [.ref (wa w 0), .int (i32 x1)] M r M9 := by
  refine Ct.of hij KstR (by decide +kernel) (Nat.le_of_ble_eq_true rfl) (fun X G0 => ?_)
  have G := G0.1
  show VJ LR w X 2 3 r M9 M [(0, .ref (wa w 0)), (1, .int (i32 x1))] [] 0
  unfold f_m_takes at hF
  refine vj_aload_n G (p9 := 0) d_m_takes_0 rfl rfl ?_
  obtain ⟨r1, M1, e1, hF⟩ := bnd_some hF
  refine vj_callV1 G (ct_m_next (gx_ij G) n   e1) lkR_0 clR_0 rfl q_1607 cq_m_next rfl (by decide) (by decide) (Nat.le_of_ble_eq_true rfl) d_m_takes_1 rfl (fun hr1 => ?_)
  refine vj_iload_n G (p9 := 1) d_m_takes_4 rfl rfl ?_
  refine vj_icmp_eq G (tgt := 10) d_m_takes_5 (by decide) hr1 hx1 (fun c2 => ?_) (fun c2 => ?_)
  · rw [if_pos c2] at hF
    refine vj_aload_n G (p9 := 0) d_m_takes_10 rfl rfl ?_
    refine vj_dup G d_m_takes_11 rfl ?_
    refine gfR_m_105 G d_m_takes_12 ?_
    refine vj_mr (fun hM3 => ?_)
    refine vj_iconst G (v := 1) d_m_takes_15 rfl ?_
    refine vj_iadd G d_m_takes_16 ?_
    refine pfR_m_105 G (ir_w _) d_m_takes_17 ?_
    refine vj_iconst G (v := 1) d_m_takes_20 rfl ?_
    cases hF
    exact vj_zret G0 (Or.inr rfl) d_m_takes_21
  · rw [if_neg c2] at hF
    refine vj_iconst G (v := 0) d_m_takes_8 rfl ?_
    cases hF
    exact vj_zret G0 (Or.inl rfl) d_m_takes_9
set_option maxHeartbeats 4000000 in
set_option maxRecDepth 100000 in
theorem wk_m_takesWord_4 {w : Wd} {X : Cx} {r : Int} {M9 : Mm} (G0 : Gx LR w X "WhoRulesModel" b_m_takesWord 4 2 41 (some .boolean)) (n : Nat) (k4 : Int → Int → Mm → Rr) (hk4 : ∀ (x1 x3 : Int) (hx1 : inR x1) (hx3 : inR x3) (M : Mm), k4 x1 x3 M = some (r, M9) → VJ LR w X 4 3 r M9 M [(0, .ref (wa w 0)), (1, .int (i32 x1)), (3, .int (i32 x3))] [] 4) (x1 x3 : Int) (hx1 : inR x1) (hx3 : inR x3) (M : Mm) (hF : f_m_takesWord_4 n k4 x1 x3 M = some (r, M9)) : VJ LR w X 4 3 r M9 M [(0, .ref (wa w 0)), (1, .int (i32 x1)), (3, .int (i32 x3))] [] 4 := by
  have G := G0.1
  unfold f_m_takesWord_4 at hF
  refine vj_iload_n G (p9 := 2) d_m_takesWord_4 rfl rfl ?_
  refine vj_if_lt G (tgt := 34) d_m_takesWord_5 (by decide) hx3 (fun c1 => ?_) (fun c1 => ?_)
  · rw [if_pos c1] at hF
    refine vj_aload_n G (p9 := 0) d_m_takesWord_34 rfl rfl ?_
    refine vj_bipush G (v := 32) d_m_takesWord_35 rfl ?_
    obtain ⟨r2, M2, e2, hF⟩ := bnd_some hF
    refine vj_callV3 G (ct_m_takes (gx_ij G) n 32 ic_32 e2) lkR_0 clR_0 rfl q_1616 cq_m_takes rfl (by decide) (by decide) (Nat.le_of_ble_eq_true rfl) d_m_takesWord_37 rfl (fun hr2 => ?_)
    cases hF
    exact vj_zret G0 hr2 d_m_takesWord_40
  · rw [if_neg c1] at hF
    refine vj_aload_n G (p9 := 0) d_m_takesWord_8 rfl rfl ?_
    refine vj_bipush G (v := 96) d_m_takesWord_9 rfl ?_
    refine vj_iload_n G (p9 := 1) d_m_takesWord_11 rfl rfl ?_
    refine vj_iconst G (v := 5) d_m_takesWord_12 rfl ?_
    refine vj_iload_n G (p9 := 2) d_m_takesWord_13 rfl rfl ?_
    refine vj_imul G d_m_takesWord_14 ?_
    refine vj_ishr G d_m_takesWord_15 ?_
    refine vj_bipush G (v := 31) d_m_takesWord_16 rfl ?_
    refine vj_iand G d_m_takesWord_18 ?_
    refine vj_iadd G d_m_takesWord_19 ?_
    obtain ⟨r3, M3, e3, hF⟩ := bnd_some hF
    refine vj_callV3 G (ct_m_takes (gx_ij G) n (w32 (96 + (ian (isr x1 (w32 (5 * x3))) 31))) (ir_w _) e3) lkR_0 clR_0 rfl q_1616 cq_m_takes rfl (by decide) (by decide) (Nat.le_of_ble_eq_true rfl) d_m_takesWord_20 rfl (fun hr3 => ?_)
    refine vj_if_ne G (tgt := 28) d_m_takesWord_23 (by decide) (ir_b hr3) (fun c4 => ?_) (fun c4 => ?_)
    · rw [if_pos c4] at hF
      refine vj_iinc G (p9 := 2) (n := (-1)) (lv2 := [(3, .int (i32 (w32 (x3 + (-1))))), (0, .ref (wa w 0)), (1, .int (i32 x1))]) d_m_takesWord_28 rfl (by decide) rfl ?_
      refine vj_goto G (tgt := 4) d_m_takesWord_31 (by decide) ?_
      refine vj_sub [1, 2, 0] rfl ?_
      exact hk4 x1 (w32 (x3 + (-1))) hx1 (ir_w _) _ hF
    · rw [if_neg c4] at hF
      refine vj_iconst G (v := 0) d_m_takesWord_26 rfl ?_
      cases hF
      exact vj_zret G0 (Or.inl rfl) d_m_takesWord_27
set_option maxHeartbeats 4000000 in
set_option maxRecDepth 100000 in
theorem wl_m_takesWord_4 {w : Wd} {X : Cx} {r : Int} {M9 : Mm} (G0 : Gx LR w X "WhoRulesModel" b_m_takesWord 4 2 41 (some .boolean)) (n : Nat) : ∀ (f : Nat) (x1 x3 : Int) (hx1 : inR x1) (hx3 : inR x3) (M : Mm), lp_m_takesWord_4 n f x1 x3 M = some (r, M9) → VJ LR w X 4 3 r M9 M [(0, .ref (wa w 0)), (1, .int (i32 x1)), (3, .int (i32 x3))] [] 4 := by
  intro f
  induction f with
  | zero => intro x1 x3 hx1 hx3 M hF; cases hF
  | succ f ih => intro x1 x3 hx1 hx3 M hF; exact wk_m_takesWord_4 G0 n (lp_m_takesWord_4 n f) ih x1 x3 hx1 hx3 M hF
set_option maxHeartbeats 4000000 in
set_option maxRecDepth 100000 in
theorem ct_m_takesWord {w : Wd} (hij : ij LR w) (n : Nat) (x1 x2 : Int) (hx1 : inR x1) (hx2 : inR x2) {M : Mm} {r : Int} {M9 : Mm} (hF : f_m_takesWord n x1 x2 M = some (r, M9)) : Ct LR w y_m_takesWord b_m_takesWord 4 (some .boolean) 2 41 3 [.ref (wa w 0), .int (i32 x1), .int (i32 x2)] M r M9 := by
  refine Ct.of hij KstR (by decide +kernel) (Nat.le_of_ble_eq_true rfl) (fun X G0 => ?_)
  have G := G0.1
  show VJ LR w X 4 3 r M9 M [(0, .ref (wa w 0)), (1, .int (i32 x1)), (2, .int (i32 x2))] [] 0
  unfold f_m_takesWord at hF
  refine vj_iload_n G (p9 := 2) d_m_takesWord_0 rfl rfl ?_
  refine vj_iconst G (v := 1) d_m_takesWord_1 rfl ?_
  refine vj_isub G d_m_takesWord_2 ?_
  refine vj_istore_n G (lv2 := [(3, .int (i32 (w32 (x2 - 1)))), (0, .ref (wa w 0)), (1, .int (i32 x1)), (2, .int (i32 x2))]) d_m_takesWord_3 rfl (by decide) rfl ?_
  refine vj_sub [1, 2, 0] rfl ?_
  exact wl_m_takesWord_4 G0 n  n x1 (w32 (x2 - 1)) hx1 (ir_w _) _ hF
set_option maxHeartbeats 4000000 in
set_option maxRecDepth 100000 in
theorem wk_m_takesNumber_90 {w : Wd} {X : Cx} {r : Int} {M9 : Mm} (G0 : Gx LR w X "WhoRulesModel" b_m_takesNumber 3 2 43 (some .boolean)) (n : Nat) (x1 : Int) (hx1 : inB x1) (M : Mm) (hF : f_m_takesNumber_90 n x1 M = some (r, M9)) : VJ LR w X 3 3 r M9 M [(0, .ref (wa w 0)), (1, .int (i32 x1))] [] 90 := by
  have G := G0.1
  unfold f_m_takesNumber_90 at hF
  refine vj_iload_n G (p9 := 1) d_m_takesNumber_90 rfl rfl ?_
  refine vj_if_eq G (tgt := 101) d_m_takesNumber_91 (by decide) (ir_b hx1) (fun c1 => ?_) (fun c1 => ?_)
  · rw [if_pos c1] at hF
    refine vj_iconst G (v := 1) d_m_takesNumber_101 rfl ?_
    refine vj_goto G (tgt := 106) d_m_takesNumber_102 (by decide) ?_
    cases hF
    exact vj_zret G0 (Or.inr rfl) d_m_takesNumber_106
  · rw [if_neg c1] at hF
    refine vj_aload_n G (p9 := 0) d_m_takesNumber_94 rfl rfl ?_
    refine gfR_m_111 G d_m_takesNumber_95 ?_
    refine vj_mr (fun hM2 => ?_)
    refine vj_if_le G (tgt := 105) d_m_takesNumber_98 (by decide) (mr_o hM2 lkR_0 flR_0_33) (fun c3 => ?_) (fun c3 => ?_)
    · rw [if_pos c3] at hF
      refine vj_iconst G (v := 0) d_m_takesNumber_105 rfl ?_
      cases hF
      exact vj_zret G0 (Or.inl rfl) d_m_takesNumber_106
    · rw [if_neg c3] at hF
      refine vj_iconst G (v := 1) d_m_takesNumber_101 rfl ?_
      refine vj_goto G (tgt := 106) d_m_takesNumber_102 (by decide) ?_
      cases hF
      exact vj_zret G0 (Or.inr rfl) d_m_takesNumber_106
set_option maxHeartbeats 4000000 in
set_option maxRecDepth 100000 in
theorem wk_m_takesNumber_55 {w : Wd} {X : Cx} {r : Int} {M9 : Mm} (G0 : Gx LR w X "WhoRulesModel" b_m_takesNumber 3 2 43 (some .boolean)) (n : Nat) (k16 : Int → Int → Mm → Rr) (hk16 : ∀ (x1 x2 : Int) (hx1 : inB x1) (hx2 : inR x2) (M : Mm), k16 x1 x2 M = some (r, M9) → VJ LR w X 3 3 r M9 M [(0, .ref (wa w 0)), (1, .int (i32 x1)), (2, .int (i32 x2))] [] 16) (x1 x2 : Int) (hx1 : inB x1) (hx2 : inR x2) (M : Mm) (hF : f_m_takesNumber_55 n k16 x1 x2 M = some (r, M9)) : VJ LR w X 3 3 r M9 M [(0, .ref (wa w 0)), (1, .int (i32 x1)), (2, .int (i32 x2))] [] 55 := by
  have G := G0.1
  unfold f_m_takesNumber_55 at hF
  refine vj_aload_n G (p9 := 0) d_m_takesNumber_55 rfl rfl ?_
  refine vj_bipush G (v := 10) d_m_takesNumber_56 rfl ?_
  refine vj_aload_n G (p9 := 0) d_m_takesNumber_58 rfl rfl ?_
  refine gfR_m_111 G d_m_takesNumber_59 ?_
  refine vj_mr (fun hM1 => ?_)
  refine vj_imul G d_m_takesNumber_62 ?_
  refine vj_aload_n G (p9 := 0) d_m_takesNumber_63 rfl rfl ?_
  obtain ⟨r2, M2, e2, hF⟩ := bnd_some hF
  refine vj_callV1 G (ct_m_next (gx_ij G) n   e2) lkR_0 clR_0 rfl q_1607 cq_m_next rfl (by decide) (by decide) (Nat.le_of_ble_eq_true rfl) d_m_takesNumber_64 rfl (fun hr2 => ?_)
  refine vj_iadd G d_m_takesNumber_67 ?_
  refine vj_bipush G (v := 48) d_m_takesNumber_68 rfl ?_
  refine vj_isub G d_m_takesNumber_70 ?_
  refine pfR_m_111 G (ir_w _) d_m_takesNumber_71 ?_
  refine vj_aload_n G (p9 := 0) d_m_takesNumber_74 rfl rfl ?_
  refine vj_dup G d_m_takesNumber_75 rfl ?_
  refine gfR_m_105 G d_m_takesNumber_76 ?_
  refine vj_mr (fun hM3 => ?_)
  refine vj_iconst G (v := 1) d_m_takesNumber_79 rfl ?_
  refine vj_iadd G d_m_takesNumber_80 ?_
  refine pfR_m_105 G (ir_w _) d_m_takesNumber_81 ?_
  refine vj_iinc G (p9 := 2) (n := 1) (lv2 := [(2, .int (i32 (w32 (x2 + 1)))), (0, .ref (wa w 0)), (1, .int (i32 x1))]) d_m_takesNumber_84 rfl (by decide) rfl ?_
  refine vj_goto G (tgt := 16) d_m_takesNumber_87 (by decide) ?_
  refine vj_sub [1, 2, 0] rfl ?_
  exact hk16 x1 (w32 (x2 + 1)) hx1 (ir_w _) _ hF
set_option maxHeartbeats 4000000 in
set_option maxRecDepth 100000 in
theorem wk_m_takesNumber_16 {w : Wd} {X : Cx} {r : Int} {M9 : Mm} (G0 : Gx LR w X "WhoRulesModel" b_m_takesNumber 3 2 43 (some .boolean)) (n : Nat) (k16 : Int → Int → Mm → Rr) (hk16 : ∀ (x1 x2 : Int) (hx1 : inB x1) (hx2 : inR x2) (M : Mm), k16 x1 x2 M = some (r, M9) → VJ LR w X 3 3 r M9 M [(0, .ref (wa w 0)), (1, .int (i32 x1)), (2, .int (i32 x2))] [] 16) (x1 x2 : Int) (hx1 : inB x1) (hx2 : inR x2) (M : Mm) (hF : f_m_takesNumber_16 n k16 x1 x2 M = some (r, M9)) : VJ LR w X 3 3 r M9 M [(0, .ref (wa w 0)), (1, .int (i32 x1)), (2, .int (i32 x2))] [] 16 := by
  have G := G0.1
  unfold f_m_takesNumber_16 at hF
  refine vj_iload_n G (p9 := 2) d_m_takesNumber_16 rfl rfl ?_
  refine vj_iconst G (v := 3) d_m_takesNumber_17 rfl ?_
  refine vj_icmp_ge G (tgt := 90) d_m_takesNumber_18 (by decide) hx2 ic_3 (fun c1 => ?_) (fun c1 => ?_)
  · rw [if_pos c1] at hF
    refine vj_sub [0, 1] rfl ?_
    exact wk_m_takesNumber_90 G0 n  x1 hx1 _ hF
  · rw [if_neg c1] at hF
    refine vj_aload_n G (p9 := 0) d_m_takesNumber_21 rfl rfl ?_
    obtain ⟨r2, M2, e2, hF⟩ := bnd_some hF
    refine vj_callV3 G (ct_m_isDigit (gx_ij G) n   e2) lkR_0 clR_0 rfl q_1624 cq_m_isDigit rfl (by decide) (by decide) (Nat.le_of_ble_eq_true rfl) d_m_takesNumber_22 rfl (fun hr2 => ?_)
    refine vj_if_eq G (tgt := 90) d_m_takesNumber_25 (by decide) (ir_b hr2) (fun c3 => ?_) (fun c3 => ?_)
    · rw [if_pos c3] at hF
      refine vj_sub [0, 1] rfl ?_
      exact wk_m_takesNumber_90 G0 n  x1 hx1 _ hF
    · rw [if_neg c3] at hF
      refine vj_iload_n G (p9 := 1) d_m_takesNumber_28 rfl rfl ?_
      refine vj_if_eq G (tgt := 55) d_m_takesNumber_29 (by decide) (ir_b hx1) (fun c4 => ?_) (fun c4 => ?_)
      · rw [if_pos c4] at hF
        exact wk_m_takesNumber_55 G0 n k16 hk16 x1 x2 hx1 hx2 _ hF
      · rw [if_neg c4] at hF
        refine vj_iload_n G (p9 := 2) d_m_takesNumber_32 rfl rfl ?_
        refine vj_iconst G (v := 2) d_m_takesNumber_33 rfl ?_
        refine vj_icmp_ne G (tgt := 55) d_m_takesNumber_34 (by decide) hx2 ic_2 (fun c5 => ?_) (fun c5 => ?_)
        · rw [if_pos c5] at hF
          exact wk_m_takesNumber_55 G0 n k16 hk16 x1 x2 hx1 hx2 _ hF
        · rw [if_neg c5] at hF
          refine vj_aload_n G (p9 := 0) d_m_takesNumber_37 rfl rfl ?_
          refine gfR_m_111 G d_m_takesNumber_38 ?_
          refine vj_mr (fun hM6 => ?_)
          refine vj_if_ne G (tgt := 55) d_m_takesNumber_41 (by decide) (mr_o hM6 lkR_0 flR_0_33) (fun c7 => ?_) (fun c7 => ?_)
          · rw [if_pos c7] at hF
            exact wk_m_takesNumber_55 G0 n k16 hk16 x1 x2 hx1 hx2 _ hF
          · rw [if_neg c7] at hF
            refine vj_aload_n G (p9 := 0) d_m_takesNumber_44 rfl rfl ?_
            obtain ⟨r8, M8, e8, hF⟩ := bnd_some hF
            refine vj_callV1 G (ct_m_next (gx_ij G) n   e8) lkR_0 clR_0 rfl q_1607 cq_m_next rfl (by decide) (by decide) (Nat.le_of_ble_eq_true rfl) d_m_takesNumber_45 rfl (fun hr8 => ?_)
            refine vj_bipush G (v := 48) d_m_takesNumber_48 rfl ?_
            refine vj_icmp_ne G (tgt := 55) d_m_takesNumber_50 (by decide) hr8 ic_48 (fun c9 => ?_) (fun c9 => ?_)
            · rw [if_pos c9] at hF
              exact wk_m_takesNumber_55 G0 n k16 hk16 x1 x2 hx1 hx2 _ hF
            · rw [if_neg c9] at hF
              refine vj_iconst G (v := 0) d_m_takesNumber_53 rfl ?_
              cases hF
              exact vj_zret G0 (Or.inl rfl) d_m_takesNumber_54
set_option maxHeartbeats 4000000 in
set_option maxRecDepth 100000 in
theorem wl_m_takesNumber_16 {w : Wd} {X : Cx} {r : Int} {M9 : Mm} (G0 : Gx LR w X "WhoRulesModel" b_m_takesNumber 3 2 43 (some .boolean)) (n : Nat) : ∀ (f : Nat) (x1 x2 : Int) (hx1 : inB x1) (hx2 : inR x2) (M : Mm), lp_m_takesNumber_16 n f x1 x2 M = some (r, M9) → VJ LR w X 3 3 r M9 M [(0, .ref (wa w 0)), (1, .int (i32 x1)), (2, .int (i32 x2))] [] 16 := by
  intro f
  induction f with
  | zero => intro x1 x2 hx1 hx2 M hF; cases hF
  | succ f ih => intro x1 x2 hx1 hx2 M hF; exact wk_m_takesNumber_16 G0 n (lp_m_takesNumber_16 n f) ih x1 x2 hx1 hx2 M hF
set_option maxHeartbeats 4000000 in
set_option maxRecDepth 100000 in
theorem ct_m_takesNumber {w : Wd} (hij : ij LR w) (n : Nat) (x1 : Int) (hx1 : inB x1) {M : Mm} {r : Int} {M9 : Mm} (hF : f_m_takesNumber n x1 M = some (r, M9)) : Ct LR w y_m_takesNumber b_m_takesNumber 3 (some .boolean) 2 43 3 [.ref (wa w 0), .int (i32 x1)] M r M9 := by
  refine Ct.of hij KstR (by decide +kernel) (Nat.le_of_ble_eq_true rfl) (fun X G0 => ?_)
  have G := G0.1
  show VJ LR w X 3 3 r M9 M [(0, .ref (wa w 0)), (1, .int (i32 x1))] [] 0
  unfold f_m_takesNumber at hF
  refine vj_aload_n G (p9 := 0) d_m_takesNumber_0 rfl rfl ?_
  obtain ⟨r1, M1, e1, hF⟩ := bnd_some hF
  refine vj_callV3 G (ct_m_isDigit (gx_ij G) n   e1) lkR_0 clR_0 rfl q_1624 cq_m_isDigit rfl (by decide) (by decide) (Nat.le_of_ble_eq_true rfl) d_m_takesNumber_1 rfl (fun hr1 => ?_)
  refine vj_if_ne G (tgt := 9) d_m_takesNumber_4 (by decide) (ir_b hr1) (fun c2 => ?_) (fun c2 => ?_)
  · rw [if_pos c2] at hF
    refine vj_aload_n G (p9 := 0) d_m_takesNumber_9 rfl rfl ?_
    refine vj_iconst G (v := 0) d_m_takesNumber_10 rfl ?_
    refine pfR_m_111 G ic_0 d_m_takesNumber_11 ?_
    refine vj_iconst G (v := 0) d_m_takesNumber_14 rfl ?_
    refine vj_istore_n G (lv2 := [(2, .int (i32 0)), (0, .ref (wa w 0)), (1, .int (i32 x1))]) d_m_takesNumber_15 rfl (by decide) rfl ?_
    refine vj_sub [1, 2, 0] rfl ?_
    exact wl_m_takesNumber_16 G0 n  n x1 0 hx1 ic_0 _ hF
  · rw [if_neg c2] at hF
    refine vj_iconst G (v := 0) d_m_takesNumber_7 rfl ?_
    cases hF
    exact vj_zret G0 (Or.inl rfl) d_m_takesNumber_8
set_option maxHeartbeats 4000000 in
set_option maxRecDepth 100000 in
theorem wk_m_push_58 {w : Wd} {X : Cx} {r : Int} {M9 : Mm} (G0 : Gx LR w X "WhoRulesModel" b_m_push 3 0 0 none) (n : Nat) (x2 : Int) (hx2 : inB x2) (M : Mm) (hF : f_m_push_58 n x2 M = some (r, M9)) : VJ LR w X 3 0 r M9 M [(0, .ref (wa w 0)), (2, .int (i32 x2))] [] 58 := by
  have G := G0.1
  unfold f_m_push_58 at hF
  refine vj_aload_n G (p9 := 0) d_m_push_58 rfl rfl ?_
  refine gfR_m_117 G d_m_push_59 ?_
  refine vj_aload_n G (p9 := 0) d_m_push_62 rfl rfl ?_
  refine gfR_m_124 G d_m_push_63 ?_
  refine vj_mr (fun hM1 => ?_)
  refine vj_iload_n G (p9 := 1) d_m_push_66 rfl rfl ?_
  obtain ⟨c2, hF⟩ := ck_some hF
  refine vj_zast G (x := (M 0 37)) lkR_21 (by decide) (by decide) (by decide) c2 hx2 d_m_push_67 ?_
  refine vj_aload_n G (p9 := 0) d_m_push_68 rfl rfl ?_
  refine vj_dup G d_m_push_69 rfl ?_
  refine gfR_m_124 G d_m_push_70 ?_
  refine vj_mr (fun hM3 => ?_)
  refine vj_iconst G (v := 1) d_m_push_73 rfl ?_
  refine vj_iadd G d_m_push_74 ?_
  refine pfR_m_124 G (ir_w _) d_m_push_75 ?_
  cases hF
  exact vj_vret G0 d_m_push_78
set_option maxHeartbeats 4000000 in
set_option maxRecDepth 100000 in
theorem wk_m_push_34 {w : Wd} {X : Cx} {r : Int} {M9 : Mm} (G0 : Gx LR w X "WhoRulesModel" b_m_push 3 0 0 none) (n : Nat) (k2 : Int → Mm → Rr) (hk2 : ∀ (x2 : Int) (hx2 : inB x2) (M : Mm), k2 x2 M = some (r, M9) → VJ LR w X 3 0 r M9 M [(0, .ref (wa w 0)), (2, .int (i32 x2))] [] 2) (s0 : Int) (hs0 : inB s0) (M : Mm) (hF : f_m_push_34 n k2 s0 M = some (r, M9)) : VJ LR w X 3 0 r M9 M [(0, .ref (wa w 0))] [.int (i32 s0)] 34 := by
  have G := G0.1
  unfold f_m_push_34 at hF
  refine vj_istore_n G (lv2 := [(2, .int (i32 s0)), (0, .ref (wa w 0))]) d_m_push_34 rfl (by decide) rfl ?_
  refine vj_aload_n G (p9 := 1) d_m_push_35 rfl rfl ?_
  refine vj_dup G d_m_push_36 rfl ?_
  refine gfR_m_121 G d_m_push_37 ?_
  refine vj_mr (fun hM1 => ?_)
  refine vj_iconst G (v := 1) d_m_push_40 rfl ?_
  refine vj_isub G d_m_push_41 ?_
  refine pfR_m_121 G (ir_w _) d_m_push_42 ?_
  refine vj_aload_n G (p9 := 1) d_m_push_45 rfl rfl ?_
  refine vj_dup G d_m_push_46 rfl ?_
  refine gfR_m_127 G d_m_push_47 ?_
  refine vj_mr (fun hM2 => ?_)
  refine vj_iconst G (v := 1) d_m_push_50 rfl ?_
  refine vj_isub G d_m_push_51 ?_
  refine pfR_m_127 G (ir_w _) d_m_push_52 ?_
  refine vj_goto G (tgt := 2) d_m_push_55 (by decide) ?_
  refine vj_sub [1, 0] rfl ?_
  exact hk2 s0 hs0 _ hF
set_option maxHeartbeats 4000000 in
set_option maxRecDepth 100000 in
theorem wk_m_push_2 {w : Wd} {X : Cx} {r : Int} {M9 : Mm} (G0 : Gx LR w X "WhoRulesModel" b_m_push 3 0 0 none) (n : Nat) (k2 : Int → Mm → Rr) (hk2 : ∀ (x2 : Int) (hx2 : inB x2) (M : Mm), k2 x2 M = some (r, M9) → VJ LR w X 3 0 r M9 M [(0, .ref (wa w 0)), (2, .int (i32 x2))] [] 2) (x2 : Int) (hx2 : inB x2) (M : Mm) (hF : f_m_push_2 n k2 x2 M = some (r, M9)) : VJ LR w X 3 0 r M9 M [(0, .ref (wa w 0)), (2, .int (i32 x2))] [] 2 := by
  have G := G0.1
  unfold f_m_push_2 at hF
  refine vj_aload_n G (p9 := 0) d_m_push_2 rfl rfl ?_
  refine gfR_m_121 G d_m_push_3 ?_
  refine vj_mr (fun hM1 => ?_)
  refine vj_if_le G (tgt := 58) d_m_push_6 (by decide) (mr_o hM1 lkR_0 flR_0_36) (fun c2 => ?_) (fun c2 => ?_)
  · rw [if_pos c2] at hF
    exact wk_m_push_58 G0 n  x2 hx2 _ hF
  · rw [if_neg c2] at hF
    refine vj_aload_n G (p9 := 0) d_m_push_9 rfl rfl ?_
    refine gfR_m_114 G d_m_push_10 ?_
    refine vj_aload_n G (p9 := 0) d_m_push_13 rfl rfl ?_
    refine gfR_m_121 G d_m_push_14 ?_
    refine vj_mr (fun hM3 => ?_)
    refine vj_iconst G (v := 1) d_m_push_17 rfl ?_
    refine vj_isub G d_m_push_18 ?_
    obtain ⟨c4, hF⟩ := ck_some hF
    refine vj_iald G (x := w32 ((M 0 36) - 1)) lkR_20 (by decide) c4 d_m_push_19 ?_
    refine vj_bipush G (v := 33) d_m_push_20 rfl ?_
    refine vj_icmp_ne G (tgt := 58) d_m_push_22 (by decide) (mr_a hM3 lkR_20) ic_33 (fun c5 => ?_) (fun c5 => ?_)
    · rw [if_pos c5] at hF
      exact wk_m_push_58 G0 n  x2 hx2 _ hF
    · rw [if_neg c5] at hF
      refine vj_iload_n G (p9 := 1) d_m_push_25 rfl rfl ?_
      refine vj_if_ne G (tgt := 33) d_m_push_26 (by decide) (ir_b hx2) (fun c6 => ?_) (fun c6 => ?_)
      · rw [if_pos c6] at hF
        refine vj_iconst G (v := 0) d_m_push_33 rfl ?_
        refine vj_sub [0] rfl ?_
        exact wk_m_push_34 G0 n k2 hk2 0 (Or.inl rfl) _ hF
      · rw [if_neg c6] at hF
        refine vj_iconst G (v := 1) d_m_push_29 rfl ?_
        refine vj_goto G (tgt := 34) d_m_push_30 (by decide) ?_
        refine vj_sub [0] rfl ?_
        exact wk_m_push_34 G0 n k2 hk2 1 (Or.inr rfl) _ hF
set_option maxHeartbeats 4000000 in
set_option maxRecDepth 100000 in
theorem wl_m_push_2 {w : Wd} {X : Cx} {r : Int} {M9 : Mm} (G0 : Gx LR w X "WhoRulesModel" b_m_push 3 0 0 none) (n : Nat) : ∀ (f : Nat) (x2 : Int) (hx2 : inB x2) (M : Mm), lp_m_push_2 n f x2 M = some (r, M9) → VJ LR w X 3 0 r M9 M [(0, .ref (wa w 0)), (2, .int (i32 x2))] [] 2 := by
  intro f
  induction f with
  | zero => intro x2 hx2 M hF; cases hF
  | succ f ih => intro x2 hx2 M hF; exact wk_m_push_2 G0 n (lp_m_push_2 n f) ih x2 hx2 M hF
set_option maxHeartbeats 4000000 in
set_option maxRecDepth 100000 in
theorem ct_m_push {w : Wd} (hij : ij LR w) (n : Nat) (x1 : Int) (hx1 : inB x1) {M : Mm} {r : Int} {M9 : Mm} (hF : f_m_push n x1 M = some (r, M9)) : Ct LR w y_m_push b_m_push 3 none 0 0 0 [.ref (wa w 0), .int (i32 x1)] M r M9 := by
  refine Ct.of hij KstR (by decide +kernel) (Nat.le_of_ble_eq_true rfl) (fun X G0 => ?_)
  have G := G0.1
  show VJ LR w X 3 0 r M9 M [(0, .ref (wa w 0)), (1, .int (i32 x1))] [] 0
  unfold f_m_push at hF
  refine vj_iload_n G (p9 := 1) d_m_push_0 rfl rfl ?_
  refine vj_istore_n G (lv2 := [(2, .int (i32 x1)), (0, .ref (wa w 0)), (1, .int (i32 x1))]) d_m_push_1 rfl (by decide) rfl ?_
  refine vj_sub [1, 0] rfl ?_
  exact wl_m_push_2 G0 n  n x1 hx1 _ hF
set_option maxHeartbeats 4000000 in
set_option maxRecDepth 100000 in
theorem wk_m_settle_154 {w : Wd} {X : Cx} {r : Int} {M9 : Mm} (G0 : Gx LR w X "WhoRulesModel" b_m_settle 2 0 0 none) (n : Nat) (k0 : Int → Mm → Rr) (hk0 : ∀ (x1 : Int) (hx1 : inR x1) (M : Mm), k0 x1 M = some (r, M9) → VJ LR w X 2 0 r M9 M [(0, .ref (wa w 0)), (1, .int (i32 x1))] [] 0) (x1 s1 s2 : Int) (hx1 : inR x1) (hs1 : inR s1) (hs2 : inB s2) (M : Mm) (hF : f_m_settle_154 n k0 x1 s1 s2 M = some (r, M9)) : VJ LR w X 2 0 r M9 M [(0, .ref (wa w 0)), (1, .int (i32 x1))] [.int (i32 s2), .int (i32 s1), .ref (wa w 21)] 154 := by
  have G := G0.1
  unfold f_m_settle_154 at hF
  obtain ⟨c1, hF⟩ := ck_some hF
  refine vj_zast G (x := s1) lkR_21 (by decide) (by decide) (by decide) c1 hs2 d_m_settle_154 ?_
  refine vj_goto G (tgt := 0) d_m_settle_155 (by decide) ?_
  exact hk0 x1 hx1 _ hF
set_option maxHeartbeats 4000000 in
set_option maxRecDepth 100000 in
theorem wk_m_settle_45 {w : Wd} {X : Cx} {r : Int} {M9 : Mm} (G0 : Gx LR w X "WhoRulesModel" b_m_settle 2 0 0 none) (n : Nat) (k0 : Int → Mm → Rr) (hk0 : ∀ (x1 : Int) (hx1 : inR x1) (M : Mm), k0 x1 M = some (r, M9) → VJ LR w X 2 0 r M9 M [(0, .ref (wa w 0)), (1, .int (i32 x1))] [] 0) (x1 : Int) (hx1 : inR x1) (M : Mm) (hF : f_m_settle_45 n k0 x1 M = some (r, M9)) : VJ LR w X 2 0 r M9 M [(0, .ref (wa w 0)), (1, .int (i32 x1))] [] 45 := by
  have G := G0.1
  unfold f_m_settle_45 at hF
  refine vj_aload_n G (p9 := 0) d_m_settle_45 rfl rfl ?_
  refine vj_dup G d_m_settle_46 rfl ?_
  refine gfR_m_121 G d_m_settle_47 ?_
  refine vj_mr (fun hM1 => ?_)
  refine vj_iconst G (v := 1) d_m_settle_50 rfl ?_
  refine vj_isub G d_m_settle_51 ?_
  refine pfR_m_121 G (ir_w _) d_m_settle_52 ?_
  refine vj_aload_n G (p9 := 0) d_m_settle_55 rfl rfl ?_
  refine vj_dup G d_m_settle_56 rfl ?_
  refine gfR_m_124 G d_m_settle_57 ?_
  refine vj_mr (fun hM2 => ?_)
  refine vj_iconst G (v := 1) d_m_settle_60 rfl ?_
  refine vj_isub G d_m_settle_61 ?_
  refine pfR_m_124 G (ir_w _) d_m_settle_62 ?_
  refine vj_aload_n G (p9 := 0) d_m_settle_65 rfl rfl ?_
  refine gfR_m_117 G d_m_settle_66 ?_
  refine vj_aload_n G (p9 := 0) d_m_settle_69 rfl rfl ?_
  refine gfR_m_124 G d_m_settle_70 ?_
  refine vj_mr (fun hM3 => ?_)
  refine vj_iconst G (v := 1) d_m_settle_73 rfl ?_
  refine vj_isub G d_m_settle_74 ?_
  refine vj_aload_n G (p9 := 0) d_m_settle_75 rfl rfl ?_
  refine gfR_m_114 G d_m_settle_76 ?_
  refine vj_aload_n G (p9 := 0) d_m_settle_79 rfl rfl ?_
  refine gfR_m_121 G d_m_settle_80 ?_
  obtain ⟨c4, hF⟩ := ck_some hF
  refine vj_iald G (x := ((mset (mset M 0 36 (w32 ((M 0 36) - 1))) 0 37 (w32 (((mset M 0 36 (w32 ((M 0 36) - 1))) 0 37) - 1))) 0 36)) lkR_20 (by decide) c4 d_m_settle_83 ?_
  refine vj_bipush G (v := 38) d_m_settle_84 rfl ?_
  refine vj_icmp_ne G (tgt := 123) d_m_settle_86 (by decide) (mr_a hM3 lkR_20) ic_38 (fun c5 => ?_) (fun c5 => ?_)
  · rw [if_pos c5] at hF
    refine vj_aload_n G (p9 := 0) d_m_settle_123 rfl rfl ?_
    refine gfR_m_117 G d_m_settle_124 ?_
    refine vj_aload_n G (p9 := 0) d_m_settle_127 rfl rfl ?_
    refine gfR_m_124 G d_m_settle_128 ?_
    refine vj_mr (fun hM6 => ?_)
    refine vj_iconst G (v := 1) d_m_settle_131 rfl ?_
    refine vj_isub G d_m_settle_132 ?_
    obtain ⟨c7, hF⟩ := ck_some hF
    refine vj_zald G (x := w32 (((mset (mset M 0 36 (w32 ((M 0 36) - 1))) 0 37 (w32 (((mset M 0 36 (w32 ((M 0 36) - 1))) 0 37) - 1))) 0 37) - 1)) lkR_21 (by decide) c7 d_m_settle_133 ?_
    refine vj_if_ne G (tgt := 149) d_m_settle_134 (by decide) (ir_b (mr_az hM6 lkR_21)) (fun c8 => ?_) (fun c8 => ?_)
    · rw [if_pos c8] at hF
      refine vj_iconst G (v := 1) d_m_settle_149 rfl ?_
      refine vj_goto G (tgt := 154) d_m_settle_150 (by decide) ?_
      exact wk_m_settle_154 G0 n k0 hk0 x1 (w32 (((mset (mset M 0 36 (w32 ((M 0 36) - 1))) 0 37 (w32 (((mset M 0 36 (w32 ((M 0 36) - 1))) 0 37) - 1))) 0 37) - 1)) 1 hx1 (ir_w _) (Or.inr rfl) _ hF
    · rw [if_neg c8] at hF
      refine vj_aload_n G (p9 := 0) d_m_settle_137 rfl rfl ?_
      refine gfR_m_117 G d_m_settle_138 ?_
      refine vj_aload_n G (p9 := 0) d_m_settle_141 rfl rfl ?_
      refine gfR_m_124 G d_m_settle_142 ?_
      refine vj_mr (fun hM9 => ?_)
      obtain ⟨c10, hF⟩ := ck_some hF
      refine vj_zald G (x := ((mset (mset M 0 36 (w32 ((M 0 36) - 1))) 0 37 (w32 (((mset M 0 36 (w32 ((M 0 36) - 1))) 0 37) - 1))) 0 37)) lkR_21 (by decide) c10 d_m_settle_145 ?_
      refine vj_if_eq G (tgt := 153) d_m_settle_146 (by decide) (ir_b (mr_az hM9 lkR_21)) (fun c11 => ?_) (fun c11 => ?_)
      · rw [if_pos c11] at hF
        refine vj_iconst G (v := 0) d_m_settle_153 rfl ?_
        exact wk_m_settle_154 G0 n k0 hk0 x1 (w32 (((mset (mset M 0 36 (w32 ((M 0 36) - 1))) 0 37 (w32 (((mset M 0 36 (w32 ((M 0 36) - 1))) 0 37) - 1))) 0 37) - 1)) 0 hx1 (ir_w _) (Or.inl rfl) _ hF
      · rw [if_neg c11] at hF
        refine vj_iconst G (v := 1) d_m_settle_149 rfl ?_
        refine vj_goto G (tgt := 154) d_m_settle_150 (by decide) ?_
        exact wk_m_settle_154 G0 n k0 hk0 x1 (w32 (((mset (mset M 0 36 (w32 ((M 0 36) - 1))) 0 37 (w32 (((mset M 0 36 (w32 ((M 0 36) - 1))) 0 37) - 1))) 0 37) - 1)) 1 hx1 (ir_w _) (Or.inr rfl) _ hF
  · rw [if_neg c5] at hF
    refine vj_aload_n G (p9 := 0) d_m_settle_89 rfl rfl ?_
    refine gfR_m_117 G d_m_settle_90 ?_
    refine vj_aload_n G (p9 := 0) d_m_settle_93 rfl rfl ?_
    refine gfR_m_124 G d_m_settle_94 ?_
    refine vj_mr (fun hM12 => ?_)
    refine vj_iconst G (v := 1) d_m_settle_97 rfl ?_
    refine vj_isub G d_m_settle_98 ?_
    obtain ⟨c13, hF⟩ := ck_some hF
    refine vj_zald G (x := w32 (((mset (mset M 0 36 (w32 ((M 0 36) - 1))) 0 37 (w32 (((mset M 0 36 (w32 ((M 0 36) - 1))) 0 37) - 1))) 0 37) - 1)) lkR_21 (by decide) c13 d_m_settle_99 ?_
    refine vj_if_eq G (tgt := 119) d_m_settle_100 (by decide) (ir_b (mr_az hM12 lkR_21)) (fun c14 => ?_) (fun c14 => ?_)
    · rw [if_pos c14] at hF
      refine vj_iconst G (v := 0) d_m_settle_119 rfl ?_
      refine vj_goto G (tgt := 154) d_m_settle_120 (by decide) ?_
      exact wk_m_settle_154 G0 n k0 hk0 x1 (w32 (((mset (mset M 0 36 (w32 ((M 0 36) - 1))) 0 37 (w32 (((mset M 0 36 (w32 ((M 0 36) - 1))) 0 37) - 1))) 0 37) - 1)) 0 hx1 (ir_w _) (Or.inl rfl) _ hF
    · rw [if_neg c14] at hF
      refine vj_aload_n G (p9 := 0) d_m_settle_103 rfl rfl ?_
      refine gfR_m_117 G d_m_settle_104 ?_
      refine vj_aload_n G (p9 := 0) d_m_settle_107 rfl rfl ?_
      refine gfR_m_124 G d_m_settle_108 ?_
      refine vj_mr (fun hM15 => ?_)
      obtain ⟨c16, hF⟩ := ck_some hF
      refine vj_zald G (x := ((mset (mset M 0 36 (w32 ((M 0 36) - 1))) 0 37 (w32 (((mset M 0 36 (w32 ((M 0 36) - 1))) 0 37) - 1))) 0 37)) lkR_21 (by decide) c16 d_m_settle_111 ?_
      refine vj_if_eq G (tgt := 119) d_m_settle_112 (by decide) (ir_b (mr_az hM15 lkR_21)) (fun c17 => ?_) (fun c17 => ?_)
      · rw [if_pos c17] at hF
        refine vj_iconst G (v := 0) d_m_settle_119 rfl ?_
        refine vj_goto G (tgt := 154) d_m_settle_120 (by decide) ?_
        exact wk_m_settle_154 G0 n k0 hk0 x1 (w32 (((mset (mset M 0 36 (w32 ((M 0 36) - 1))) 0 37 (w32 (((mset M 0 36 (w32 ((M 0 36) - 1))) 0 37) - 1))) 0 37) - 1)) 0 hx1 (ir_w _) (Or.inl rfl) _ hF
      · rw [if_neg c17] at hF
        refine vj_iconst G (v := 1) d_m_settle_115 rfl ?_
        refine vj_goto G (tgt := 154) d_m_settle_116 (by decide) ?_
        exact wk_m_settle_154 G0 n k0 hk0 x1 (w32 (((mset (mset M 0 36 (w32 ((M 0 36) - 1))) 0 37 (w32 (((mset M 0 36 (w32 ((M 0 36) - 1))) 0 37) - 1))) 0 37) - 1)) 1 hx1 (ir_w _) (Or.inr rfl) _ hF
set_option maxHeartbeats 4000000 in
set_option maxRecDepth 100000 in
theorem wk_m_settle_0 {w : Wd} {X : Cx} {r : Int} {M9 : Mm} (G0 : Gx LR w X "WhoRulesModel" b_m_settle 2 0 0 none) (n : Nat) (k0 : Int → Mm → Rr) (hk0 : ∀ (x1 : Int) (hx1 : inR x1) (M : Mm), k0 x1 M = some (r, M9) → VJ LR w X 2 0 r M9 M [(0, .ref (wa w 0)), (1, .int (i32 x1))] [] 0) (x1 : Int) (hx1 : inR x1) (M : Mm) (hF : f_m_settle_0 n k0 x1 M = some (r, M9)) : VJ LR w X 2 0 r M9 M [(0, .ref (wa w 0)), (1, .int (i32 x1))] [] 0 := by
  have G := G0.1
  unfold f_m_settle_0 at hF
  refine vj_aload_n G (p9 := 0) d_m_settle_0 rfl rfl ?_
  refine gfR_m_121 G d_m_settle_1 ?_
  refine vj_mr (fun hM1 => ?_)
  refine vj_if_le G (tgt := 158) d_m_settle_4 (by decide) (mr_o hM1 lkR_0 flR_0_36) (fun c2 => ?_) (fun c2 => ?_)
  · rw [if_pos c2] at hF
    cases hF
    exact vj_vret G0 d_m_settle_158
  · rw [if_neg c2] at hF
    refine vj_aload_n G (p9 := 0) d_m_settle_7 rfl rfl ?_
    refine gfR_m_114 G d_m_settle_8 ?_
    refine vj_aload_n G (p9 := 0) d_m_settle_11 rfl rfl ?_
    refine gfR_m_121 G d_m_settle_12 ?_
    refine vj_mr (fun hM3 => ?_)
    refine vj_iconst G (v := 1) d_m_settle_15 rfl ?_
    refine vj_isub G d_m_settle_16 ?_
    obtain ⟨c4, hF⟩ := ck_some hF
    refine vj_iald G (x := w32 ((M 0 36) - 1)) lkR_20 (by decide) c4 d_m_settle_17 ?_
    refine vj_bipush G (v := 38) d_m_settle_18 rfl ?_
    refine vj_icmp_eq G (tgt := 45) d_m_settle_20 (by decide) (mr_a hM3 lkR_20) ic_38 (fun c5 => ?_) (fun c5 => ?_)
    · rw [if_pos c5] at hF
      exact wk_m_settle_45 G0 n k0 hk0 x1 hx1 _ hF
    · rw [if_neg c5] at hF
      refine vj_aload_n G (p9 := 0) d_m_settle_23 rfl rfl ?_
      refine gfR_m_114 G d_m_settle_24 ?_
      refine vj_aload_n G (p9 := 0) d_m_settle_27 rfl rfl ?_
      refine gfR_m_121 G d_m_settle_28 ?_
      refine vj_mr (fun hM6 => ?_)
      refine vj_iconst G (v := 1) d_m_settle_31 rfl ?_
      refine vj_isub G d_m_settle_32 ?_
      obtain ⟨c7, hF⟩ := ck_some hF
      refine vj_iald G (x := w32 ((M 0 36) - 1)) lkR_20 (by decide) c7 d_m_settle_33 ?_
      refine vj_bipush G (v := 124) d_m_settle_34 rfl ?_
      refine vj_icmp_ne G (tgt := 158) d_m_settle_36 (by decide) (mr_a hM6 lkR_20) ic_124 (fun c8 => ?_) (fun c8 => ?_)
      · rw [if_pos c8] at hF
        cases hF
        exact vj_vret G0 d_m_settle_158
      · rw [if_neg c8] at hF
        refine vj_iload_n G (p9 := 1) d_m_settle_39 rfl rfl ?_
        refine vj_bipush G (v := 38) d_m_settle_40 rfl ?_
        refine vj_icmp_eq G (tgt := 158) d_m_settle_42 (by decide) hx1 ic_38 (fun c9 => ?_) (fun c9 => ?_)
        · rw [if_pos c9] at hF
          cases hF
          exact vj_vret G0 d_m_settle_158
        · rw [if_neg c9] at hF
          exact wk_m_settle_45 G0 n k0 hk0 x1 hx1 _ hF
set_option maxHeartbeats 4000000 in
set_option maxRecDepth 100000 in
theorem wl_m_settle_0 {w : Wd} {X : Cx} {r : Int} {M9 : Mm} (G0 : Gx LR w X "WhoRulesModel" b_m_settle 2 0 0 none) (n : Nat) : ∀ (f : Nat) (x1 : Int) (hx1 : inR x1) (M : Mm), lp_m_settle_0 n f x1 M = some (r, M9) → VJ LR w X 2 0 r M9 M [(0, .ref (wa w 0)), (1, .int (i32 x1))] [] 0 := by
  intro f
  induction f with
  | zero => intro x1 hx1 M hF; cases hF
  | succ f ih => intro x1 hx1 M hF; exact wk_m_settle_0 G0 n (lp_m_settle_0 n f) ih x1 hx1 M hF
set_option maxHeartbeats 4000000 in
set_option maxRecDepth 100000 in
theorem ct_m_settle {w : Wd} (hij : ij LR w) (n : Nat) (x1 : Int) (hx1 : inR x1) {M : Mm} {r : Int} {M9 : Mm} (hF : f_m_settle n x1 M = some (r, M9)) : Ct LR w y_m_settle b_m_settle 2 none 0 0 0 [.ref (wa w 0), .int (i32 x1)] M r M9 := by
  refine Ct.of hij KstR (by decide +kernel) (Nat.le_of_ble_eq_true rfl) (fun X G0 => ?_)
  have G := G0.1
  show VJ LR w X 2 0 r M9 M [(0, .ref (wa w 0)), (1, .int (i32 x1))] [] 0
  unfold f_m_settle at hF
  exact wl_m_settle_0 G0 n  n x1 hx1 _ hF
set_option maxHeartbeats 4000000 in
set_option maxRecDepth 100000 in
theorem wk_m_takesTest_185 {w : Wd} {X : Cx} {r : Int} {M9 : Mm} (G0 : Gx LR w X "WhoRulesModel" b_m_takesTest 4 3 65 (some .boolean)) (n : Nat) (s1 : Int) (hs1 : inB s1) (M : Mm) (hF : f_m_takesTest_185 n s1 M = some (r, M9)) : VJ LR w X 4 3 r M9 M [] [.int (i32 s1), .ref (wa w 0)] 185 := by
  have G := G0.1
  unfold f_m_takesTest_185 at hF
  obtain ⟨r1, M1, e1, hF⟩ := bnd_some hF
  refine vj_callV0 G (ct_m_push (gx_ij G) n s1 hs1 e1) lkR_0 clR_0 rfl q_1643 cq_m_push rfl (by decide) (by decide) (Nat.le_of_ble_eq_true rfl) d_m_takesTest_185 rfl (fun hr1 => ?_)
  refine vj_iconst G (v := 1) d_m_takesTest_188 rfl ?_
  cases hF
  exact vj_zret G0 (Or.inr rfl) d_m_takesTest_189
set_option maxHeartbeats 4000000 in
set_option maxRecDepth 100000 in
theorem wk_m_takesTest_56 {w : Wd} {X : Cx} {r : Int} {M9 : Mm} (G0 : Gx LR w X "WhoRulesModel" b_m_takesTest 4 3 65 (some .boolean)) (n : Nat) (s0 : Int) (hs0 : inR s0) (M : Mm) (hF : f_m_takesTest_56 n s0 M = some (r, M9)) : VJ LR w X 4 3 r M9 M [(0, .ref (wa w 0))] [.int (i32 s0)] 56 := by
  have G := G0.1
  unfold f_m_takesTest_56 at hF
  refine vj_istore_n G (lv2 := [(2, .int (i32 s0)), (0, .ref (wa w 0))]) d_m_takesTest_56 rfl (by decide) rfl ?_
  refine vj_iload_n G (p9 := 0) d_m_takesTest_57 rfl rfl ?_
  refine vj_if_ge G (tgt := 63) d_m_takesTest_58 (by decide) hs0 (fun c1 => ?_) (fun c1 => ?_)
  · rw [if_pos c1] at hF
    refine vj_aload_n G (p9 := 1) d_m_takesTest_63 rfl rfl ?_
    refine vj_dup G d_m_takesTest_64 rfl ?_
    refine gfR_m_105 G d_m_takesTest_65 ?_
    refine vj_mr (fun hM2 => ?_)
    refine vj_iconst G (v := 1) d_m_takesTest_68 rfl ?_
    refine vj_iadd G d_m_takesTest_69 ?_
    refine pfR_m_105 G (ir_w _) d_m_takesTest_70 ?_
    refine vj_aload_n G (p9 := 1) d_m_takesTest_73 rfl rfl ?_
    obtain ⟨r3, M3, e3, hF⟩ := bnd_some hF
    refine vj_callV1 G (ct_m_next (gx_ij G) n   e3) lkR_0 clR_0 rfl q_1607 cq_m_next rfl (by decide) (by decide) (Nat.le_of_ble_eq_true rfl) d_m_takesTest_74 rfl (fun hr3 => ?_)
    refine vj_istore_n G (lv2 := [(3, .int (i32 r3)), (2, .int (i32 s0)), (0, .ref (wa w 0))]) d_m_takesTest_77 rfl (by decide) rfl ?_
    refine vj_aload_n G (p9 := 2) d_m_takesTest_78 rfl rfl ?_
    refine vj_iload_n G (p9 := 0) d_m_takesTest_79 rfl rfl ?_
    refine vj_bipush G (v := 60) d_m_takesTest_80 rfl ?_
    refine vj_bipush G (v := 62) d_m_takesTest_82 rfl ?_
    obtain ⟨r4, M4, e4, hF⟩ := bnd_some hF
    refine vj_callV3 G (ct_m_in (gx_ij G) n r3 60 62 hr3 ic_60 ic_62 e4) lkR_0 clR_0 rfl q_1543 cq_m_in rfl (by decide) (by decide) (Nat.le_of_ble_eq_true rfl) d_m_takesTest_84 rfl (fun hr4 => ?_)
    refine vj_if_ne G (tgt := 92) d_m_takesTest_87 (by decide) (ir_b hr4) (fun c5 => ?_) (fun c5 => ?_)
    · rw [if_pos c5] at hF
      refine vj_aload_n G (p9 := 2) d_m_takesTest_92 rfl rfl ?_
      refine vj_dup G d_m_takesTest_93 rfl ?_
      refine gfR_m_105 G d_m_takesTest_94 ?_
      refine vj_mr (fun hM6 => ?_)
      refine vj_iconst G (v := 1) d_m_takesTest_97 rfl ?_
      refine vj_iadd G d_m_takesTest_98 ?_
      refine pfR_m_105 G (ir_w _) d_m_takesTest_99 ?_
      refine vj_aload_n G (p9 := 2) d_m_takesTest_102 rfl rfl ?_
      refine vj_iconst G (v := 0) d_m_takesTest_103 rfl ?_
      obtain ⟨r7, M7, e7, hF⟩ := bnd_some hF
      refine vj_callV3 G (ct_m_takesNumber (gx_ij G) n 0 (Or.inl rfl) e7) lkR_0 clR_0 rfl q_1620 cq_m_takesNumber rfl (by decide) (by decide) (Nat.le_of_ble_eq_true rfl) d_m_takesTest_104 rfl (fun hr7 => ?_)
      refine vj_if_ne G (tgt := 112) d_m_takesTest_107 (by decide) (ir_b hr7) (fun c8 => ?_) (fun c8 => ?_)
      · rw [if_pos c8] at hF
        refine vj_aload_n G (p9 := 2) d_m_takesTest_112 rfl rfl ?_
        refine vj_iload_n G (p9 := 0) d_m_takesTest_113 rfl rfl ?_
        refine vj_bipush G (v := 60) d_m_takesTest_114 rfl ?_
        refine vj_icmp_ne G (tgt := 140) d_m_takesTest_116 (by decide) hr3 ic_60 (fun c9 => ?_) (fun c9 => ?_)
        · rw [if_pos c9] at hF
          refine vj_iload_n G (p9 := 0) d_m_takesTest_140 rfl rfl ?_
          refine vj_bipush G (v := 61) d_m_takesTest_141 rfl ?_
          refine vj_icmp_ne G (tgt := 167) d_m_takesTest_143 (by decide) hr3 ic_61 (fun c10 => ?_) (fun c10 => ?_)
          · rw [if_pos c10] at hF
            refine vj_aload_n G (p9 := 2) d_m_takesTest_167 rfl rfl ?_
            refine gfR_m_83 G d_m_takesTest_168 ?_
            refine vj_iload_n G (p9 := 1) d_m_takesTest_171 rfl rfl ?_
            obtain ⟨c11, hF⟩ := ck_some hF
            refine vj_iald G (x := s0) lkR_16 (by decide) c11 d_m_takesTest_172 ?_
            refine vj_mr (fun hM12 => ?_)
            refine vj_aload_n G (p9 := 2) d_m_takesTest_173 rfl rfl ?_
            refine gfR_m_111 G d_m_takesTest_174 ?_
            refine vj_icmp_le G (tgt := 184) d_m_takesTest_177 (by decide) (mr_a hM12 lkR_16) (mr_o hM12 lkR_0 flR_0_33) (fun c13 => ?_) (fun c13 => ?_)
            · rw [if_pos c13] at hF
              refine vj_iconst G (v := 0) d_m_takesTest_184 rfl ?_
              refine vj_sub [] rfl ?_
              exact wk_m_takesTest_185 G0 n  0 (Or.inl rfl) _ hF
            · rw [if_neg c13] at hF
              refine vj_iconst G (v := 1) d_m_takesTest_180 rfl ?_
              refine vj_goto G (tgt := 185) d_m_takesTest_181 (by decide) ?_
              refine vj_sub [] rfl ?_
              exact wk_m_takesTest_185 G0 n  1 (Or.inr rfl) _ hF
          · rw [if_neg c10] at hF
            refine vj_aload_n G (p9 := 2) d_m_takesTest_146 rfl rfl ?_
            refine gfR_m_83 G d_m_takesTest_147 ?_
            refine vj_iload_n G (p9 := 1) d_m_takesTest_150 rfl rfl ?_
            obtain ⟨c14, hF⟩ := ck_some hF
            refine vj_iald G (x := s0) lkR_16 (by decide) c14 d_m_takesTest_151 ?_
            refine vj_mr (fun hM15 => ?_)
            refine vj_aload_n G (p9 := 2) d_m_takesTest_152 rfl rfl ?_
            refine gfR_m_111 G d_m_takesTest_153 ?_
            refine vj_icmp_ne G (tgt := 163) d_m_takesTest_156 (by decide) (mr_a hM15 lkR_16) (mr_o hM15 lkR_0 flR_0_33) (fun c16 => ?_) (fun c16 => ?_)
            · rw [if_pos c16] at hF
              refine vj_iconst G (v := 0) d_m_takesTest_163 rfl ?_
              refine vj_goto G (tgt := 185) d_m_takesTest_164 (by decide) ?_
              refine vj_sub [] rfl ?_
              exact wk_m_takesTest_185 G0 n  0 (Or.inl rfl) _ hF
            · rw [if_neg c16] at hF
              refine vj_iconst G (v := 1) d_m_takesTest_159 rfl ?_
              refine vj_goto G (tgt := 185) d_m_takesTest_160 (by decide) ?_
              refine vj_sub [] rfl ?_
              exact wk_m_takesTest_185 G0 n  1 (Or.inr rfl) _ hF
        · rw [if_neg c9] at hF
          refine vj_aload_n G (p9 := 2) d_m_takesTest_119 rfl rfl ?_
          refine gfR_m_83 G d_m_takesTest_120 ?_
          refine vj_iload_n G (p9 := 1) d_m_takesTest_123 rfl rfl ?_
          obtain ⟨c17, hF⟩ := ck_some hF
          refine vj_iald G (x := s0) lkR_16 (by decide) c17 d_m_takesTest_124 ?_
          refine vj_mr (fun hM18 => ?_)
          refine vj_aload_n G (p9 := 2) d_m_takesTest_125 rfl rfl ?_
          refine gfR_m_111 G d_m_takesTest_126 ?_
          refine vj_icmp_ge G (tgt := 136) d_m_takesTest_129 (by decide) (mr_a hM18 lkR_16) (mr_o hM18 lkR_0 flR_0_33) (fun c19 => ?_) (fun c19 => ?_)
          · rw [if_pos c19] at hF
            refine vj_iconst G (v := 0) d_m_takesTest_136 rfl ?_
            refine vj_goto G (tgt := 185) d_m_takesTest_137 (by decide) ?_
            refine vj_sub [] rfl ?_
            exact wk_m_takesTest_185 G0 n  0 (Or.inl rfl) _ hF
          · rw [if_neg c19] at hF
            refine vj_iconst G (v := 1) d_m_takesTest_132 rfl ?_
            refine vj_goto G (tgt := 185) d_m_takesTest_133 (by decide) ?_
            refine vj_sub [] rfl ?_
            exact wk_m_takesTest_185 G0 n  1 (Or.inr rfl) _ hF
      · rw [if_neg c8] at hF
        refine vj_iconst G (v := 0) d_m_takesTest_110 rfl ?_
        cases hF
        exact vj_zret G0 (Or.inl rfl) d_m_takesTest_111
    · rw [if_neg c5] at hF
      refine vj_iconst G (v := 0) d_m_takesTest_90 rfl ?_
      cases hF
      exact vj_zret G0 (Or.inl rfl) d_m_takesTest_91
  · rw [if_neg c1] at hF
    refine vj_iconst G (v := 0) d_m_takesTest_61 rfl ?_
    cases hF
    exact vj_zret G0 (Or.inl rfl) d_m_takesTest_62
set_option maxHeartbeats 4000000 in
set_option maxRecDepth 100000 in
theorem ct_m_takesTest {w : Wd} (hij : ij LR w) (n : Nat) {M : Mm} {r : Int} {M9 : Mm} (hF : f_m_takesTest n  M = some (r, M9)) : Ct LR w y_m_takesTest b_m_takesTest 4 (some .boolean) 3 65 3 [.ref (wa w 0)] M r M9 := by
  refine Ct.of hij KstR (by decide +kernel) (Nat.le_of_ble_eq_true rfl) (fun X G0 => ?_)
  have G := G0.1
  show VJ LR w X 4 3 r M9 M [(0, .ref (wa w 0))] [] 0
  unfold f_m_takesTest at hF
  refine vj_aload_n G (p9 := 0) d_m_takesTest_0 rfl rfl ?_
  obtain ⟨r1, M1, e1, hF⟩ := bnd_some hF
  refine vj_callV1 G (ct_m_next (gx_ij G) n   e1) lkR_0 clR_0 rfl q_1607 cq_m_next rfl (by decide) (by decide) (Nat.le_of_ble_eq_true rfl) d_m_takesTest_1 rfl (fun hr1 => ?_)
  refine vj_istore_n G (lv2 := [(1, .int (i32 r1)), (0, .ref (wa w 0))]) d_m_takesTest_4 rfl (by decide) rfl ?_
  refine vj_iload_n G (p9 := 0) d_m_takesTest_5 rfl rfl ?_
  refine vj_bipush G (v := 107) d_m_takesTest_6 rfl ?_
  refine vj_icmp_ne G (tgt := 15) d_m_takesTest_8 (by decide) hr1 ic_107 (fun c2 => ?_) (fun c2 => ?_)
  · rw [if_pos c2] at hF
    refine vj_iload_n G (p9 := 0) d_m_takesTest_15 rfl rfl ?_
    refine vj_bipush G (v := 104) d_m_takesTest_16 rfl ?_
    refine vj_icmp_ne G (tgt := 25) d_m_takesTest_18 (by decide) hr1 ic_104 (fun c3 => ?_) (fun c3 => ?_)
    · rw [if_pos c3] at hF
      refine vj_iload_n G (p9 := 0) d_m_takesTest_25 rfl rfl ?_
      refine vj_bipush G (v := 100) d_m_takesTest_26 rfl ?_
      refine vj_icmp_ne G (tgt := 35) d_m_takesTest_28 (by decide) hr1 ic_100 (fun c4 => ?_) (fun c4 => ?_)
      · rw [if_pos c4] at hF
        refine vj_iload_n G (p9 := 0) d_m_takesTest_35 rfl rfl ?_
        refine vj_bipush G (v := 112) d_m_takesTest_36 rfl ?_
        refine vj_icmp_ne G (tgt := 45) d_m_takesTest_38 (by decide) hr1 ic_112 (fun c5 => ?_) (fun c5 => ?_)
        · rw [if_pos c5] at hF
          refine vj_iload_n G (p9 := 0) d_m_takesTest_45 rfl rfl ?_
          refine vj_bipush G (v := 118) d_m_takesTest_46 rfl ?_
          refine vj_icmp_ne G (tgt := 55) d_m_takesTest_48 (by decide) hr1 ic_118 (fun c6 => ?_) (fun c6 => ?_)
          · rw [if_pos c6] at hF
            refine vj_iconst G (v := (-1)) d_m_takesTest_55 rfl ?_
            refine vj_sub [1] rfl ?_
            exact wk_m_takesTest_56 G0 n  (-1) ic_m1 _ hF
          · rw [if_neg c6] at hF
            refine vj_iconst G (v := 4) d_m_takesTest_51 rfl ?_
            refine vj_goto G (tgt := 56) d_m_takesTest_52 (by decide) ?_
            refine vj_sub [1] rfl ?_
            exact wk_m_takesTest_56 G0 n  4 ic_4 _ hF
        · rw [if_neg c5] at hF
          refine vj_iconst G (v := 3) d_m_takesTest_41 rfl ?_
          refine vj_goto G (tgt := 56) d_m_takesTest_42 (by decide) ?_
          refine vj_sub [1] rfl ?_
          exact wk_m_takesTest_56 G0 n  3 ic_3 _ hF
      · rw [if_neg c4] at hF
        refine vj_iconst G (v := 2) d_m_takesTest_31 rfl ?_
        refine vj_goto G (tgt := 56) d_m_takesTest_32 (by decide) ?_
        refine vj_sub [1] rfl ?_
        exact wk_m_takesTest_56 G0 n  2 ic_2 _ hF
    · rw [if_neg c3] at hF
      refine vj_iconst G (v := 1) d_m_takesTest_21 rfl ?_
      refine vj_goto G (tgt := 56) d_m_takesTest_22 (by decide) ?_
      refine vj_sub [1] rfl ?_
      exact wk_m_takesTest_56 G0 n  1 ic_1 _ hF
  · rw [if_neg c2] at hF
    refine vj_iconst G (v := 0) d_m_takesTest_11 rfl ?_
    refine vj_goto G (tgt := 56) d_m_takesTest_12 (by decide) ?_
    refine vj_sub [1] rfl ?_
    exact wk_m_takesTest_56 G0 n  0 ic_0 _ hF
set_option maxHeartbeats 4000000 in
set_option maxRecDepth 100000 in
theorem wk_m_takesE_117 {w : Wd} {X : Cx} {r : Int} {M9 : Mm} (G0 : Gx LR w X "WhoRulesModel" b_m_takesE 3 4 88 (some .boolean)) (n : Nat) (k17 : Int → Mm → Rr) (hk17 : ∀ (x1 : Int) (hx1 : inB x1) (M : Mm), k17 x1 M = some (r, M9) → VJ LR w X 3 3 r M9 M [(0, .ref (wa w 0)), (1, .int (i32 x1))] [] 17) (x2 : Int) (hx2 : inR x2) (M : Mm) (hF : f_m_takesE_117 n k17 x2 M = some (r, M9)) : VJ LR w X 3 3 r M9 M [(0, .ref (wa w 0)), (2, .int (i32 x2))] [] 117 := by
  have G := G0.1
  unfold f_m_takesE_117 at hF
  refine vj_aload_n G (p9 := 0) d_m_takesE_117 rfl rfl ?_
  refine vj_iload_n G (p9 := 1) d_m_takesE_118 rfl rfl ?_
  obtain ⟨r1, M1, e1, hF⟩ := bnd_some hF
  refine vj_callV0 G (ct_m_settle (gx_ij G) n x2 hx2 e1) lkR_0 clR_0 rfl q_1647 cq_m_settle rfl (by decide) (by decide) (Nat.le_of_ble_eq_true rfl) d_m_takesE_119 rfl (fun hr1 => ?_)
  refine vj_aload_n G (p9 := 0) d_m_takesE_122 rfl rfl ?_
  refine gfR_m_114 G d_m_takesE_123 ?_
  refine vj_aload_n G (p9 := 0) d_m_takesE_126 rfl rfl ?_
  refine gfR_m_121 G d_m_takesE_127 ?_
  refine vj_mr (fun hM2 => ?_)
  refine vj_iload_n G (p9 := 1) d_m_takesE_130 rfl rfl ?_
  obtain ⟨c3, hF⟩ := ck_some hF
  refine vj_iast G (x := (M1 0 36)) lkR_20 (by decide) (by decide) (by decide) c3 hx2 d_m_takesE_131 ?_
  refine vj_aload_n G (p9 := 0) d_m_takesE_132 rfl rfl ?_
  refine vj_dup G d_m_takesE_133 rfl ?_
  refine gfR_m_121 G d_m_takesE_134 ?_
  refine vj_mr (fun hM4 => ?_)
  refine vj_iconst G (v := 1) d_m_takesE_137 rfl ?_
  refine vj_iadd G d_m_takesE_138 ?_
  refine pfR_m_121 G (ir_w _) d_m_takesE_139 ?_
  refine vj_iconst G (v := 1) d_m_takesE_142 rfl ?_
  refine vj_istore_n G (lv2 := [(1, .int (i32 1)), (0, .ref (wa w 0)), (2, .int (i32 x2))]) d_m_takesE_143 rfl (by decide) rfl ?_
  refine vj_aload_n G (p9 := 1) d_m_takesE_144 rfl rfl ?_
  refine vj_dup G d_m_takesE_145 rfl ?_
  refine gfR_m_105 G d_m_takesE_146 ?_
  refine vj_mr (fun hM5 => ?_)
  refine vj_iconst G (v := 1) d_m_takesE_149 rfl ?_
  refine vj_iadd G d_m_takesE_150 ?_
  refine pfR_m_105 G (ir_w _) d_m_takesE_151 ?_
  refine vj_goto G (tgt := 17) d_m_takesE_154 (by decide) ?_
  refine vj_sub [1, 0] rfl ?_
  exact hk17 1 (Or.inr rfl) _ hF
set_option maxHeartbeats 4000000 in
set_option maxRecDepth 100000 in
theorem wk_m_takesE_38 {w : Wd} {X : Cx} {r : Int} {M9 : Mm} (G0 : Gx LR w X "WhoRulesModel" b_m_takesE 3 4 88 (some .boolean)) (n : Nat) (k17 : Int → Mm → Rr) (hk17 : ∀ (x1 : Int) (hx1 : inB x1) (M : Mm), k17 x1 M = some (r, M9) → VJ LR w X 3 3 r M9 M [(0, .ref (wa w 0)), (1, .int (i32 x1))] [] 17) (x1 x2 : Int) (hx1 : inB x1) (hx2 : inR x2) (M : Mm) (hF : f_m_takesE_38 n k17 x1 x2 M = some (r, M9)) : VJ LR w X 3 3 r M9 M [(0, .ref (wa w 0)), (1, .int (i32 x1)), (2, .int (i32 x2))] [] 38 := by
  have G := G0.1
  unfold f_m_takesE_38 at hF
  refine vj_aload_n G (p9 := 0) d_m_takesE_38 rfl rfl ?_
  refine gfR_m_127 G d_m_takesE_39 ?_
  refine vj_mr (fun hM1 => ?_)
  refine vj_iconst G (v := 4) d_m_takesE_42 rfl ?_
  refine vj_icmp_ne G (tgt := 48) d_m_takesE_43 (by decide) (mr_o hM1 lkR_0 flR_0_38) ic_4 (fun c2 => ?_) (fun c2 => ?_)
  · rw [if_pos c2] at hF
    refine vj_aload_n G (p9 := 0) d_m_takesE_48 rfl rfl ?_
    refine vj_dup G d_m_takesE_49 rfl ?_
    refine gfR_m_127 G d_m_takesE_50 ?_
    refine vj_mr (fun hM3 => ?_)
    refine vj_iconst G (v := 1) d_m_takesE_53 rfl ?_
    refine vj_iadd G d_m_takesE_54 ?_
    refine pfR_m_127 G (ir_w _) d_m_takesE_55 ?_
    refine vj_aload_n G (p9 := 0) d_m_takesE_58 rfl rfl ?_
    refine gfR_m_114 G d_m_takesE_59 ?_
    refine vj_aload_n G (p9 := 0) d_m_takesE_62 rfl rfl ?_
    refine gfR_m_121 G d_m_takesE_63 ?_
    refine vj_mr (fun hM4 => ?_)
    refine vj_iload_n G (p9 := 2) d_m_takesE_66 rfl rfl ?_
    obtain ⟨c5, hF⟩ := ck_some hF
    refine vj_iast G (x := ((mset M 0 38 (w32 ((M 0 38) + 1))) 0 36)) lkR_20 (by decide) (by decide) (by decide) c5 hx2 d_m_takesE_67 ?_
    refine vj_aload_n G (p9 := 0) d_m_takesE_68 rfl rfl ?_
    refine vj_dup G d_m_takesE_69 rfl ?_
    refine gfR_m_121 G d_m_takesE_70 ?_
    refine vj_mr (fun hM6 => ?_)
    refine vj_iconst G (v := 1) d_m_takesE_73 rfl ?_
    refine vj_iadd G d_m_takesE_74 ?_
    refine pfR_m_121 G (ir_w _) d_m_takesE_75 ?_
    refine vj_aload_n G (p9 := 0) d_m_takesE_78 rfl rfl ?_
    refine vj_dup G d_m_takesE_79 rfl ?_
    refine gfR_m_105 G d_m_takesE_80 ?_
    refine vj_mr (fun hM7 => ?_)
    refine vj_iconst G (v := 1) d_m_takesE_83 rfl ?_
    refine vj_iadd G d_m_takesE_84 ?_
    refine pfR_m_105 G (ir_w _) d_m_takesE_85 ?_
    refine vj_goto G (tgt := 17) d_m_takesE_88 (by decide) ?_
    refine vj_sub [0, 1] rfl ?_
    exact hk17 x1 hx1 _ hF
  · rw [if_neg c2] at hF
    refine vj_iconst G (v := 0) d_m_takesE_46 rfl ?_
    cases hF
    exact vj_zret G0 (Or.inl rfl) d_m_takesE_47
set_option maxHeartbeats 4000000 in
set_option maxRecDepth 100000 in
theorem wk_m_takesE_17 {w : Wd} {X : Cx} {r : Int} {M9 : Mm} (G0 : Gx LR w X "WhoRulesModel" b_m_takesE 3 4 88 (some .boolean)) (n : Nat) (k17 : Int → Mm → Rr) (hk17 : ∀ (x1 : Int) (hx1 : inB x1) (M : Mm), k17 x1 M = some (r, M9) → VJ LR w X 3 3 r M9 M [(0, .ref (wa w 0)), (1, .int (i32 x1))] [] 17) (x1 : Int) (hx1 : inB x1) (M : Mm) (hF : f_m_takesE_17 n k17 x1 M = some (r, M9)) : VJ LR w X 3 3 r M9 M [(0, .ref (wa w 0)), (1, .int (i32 x1))] [] 17 := by
  have G := G0.1
  unfold f_m_takesE_17 at hF
  refine vj_aload_n G (p9 := 0) d_m_takesE_17 rfl rfl ?_
  obtain ⟨r1, M1, e1, hF⟩ := bnd_some hF
  refine vj_callV1 G (ct_m_next (gx_ij G) n   e1) lkR_0 clR_0 rfl q_1607 cq_m_next rfl (by decide) (by decide) (Nat.le_of_ble_eq_true rfl) d_m_takesE_18 rfl (fun hr1 => ?_)
  refine vj_istore_n G (lv2 := [(2, .int (i32 r1)), (0, .ref (wa w 0)), (1, .int (i32 x1))]) d_m_takesE_21 rfl (by decide) rfl ?_
  refine vj_iload_n G (p9 := 2) d_m_takesE_22 rfl rfl ?_
  refine vj_if_eq G (tgt := 105) d_m_takesE_23 (by decide) (ir_b hx1) (fun c2 => ?_) (fun c2 => ?_)
  · rw [if_pos c2] at hF
    refine vj_iload_n G (p9 := 0) d_m_takesE_105 rfl rfl ?_
    refine vj_bipush G (v := 38) d_m_takesE_106 rfl ?_
    refine vj_icmp_eq G (tgt := 117) d_m_takesE_108 (by decide) hr1 ic_38 (fun c3 => ?_) (fun c3 => ?_)
    · rw [if_pos c3] at hF
      refine vj_sub [1, 0] rfl ?_
      exact wk_m_takesE_117 G0 n k17 hk17 r1 hr1 _ hF
    · rw [if_neg c3] at hF
      refine vj_iload_n G (p9 := 0) d_m_takesE_111 rfl rfl ?_
      refine vj_bipush G (v := 124) d_m_takesE_112 rfl ?_
      refine vj_icmp_ne G (tgt := 157) d_m_takesE_114 (by decide) hr1 ic_124 (fun c4 => ?_) (fun c4 => ?_)
      · rw [if_pos c4] at hF
        refine vj_aload_n G (p9 := 1) d_m_takesE_157 rfl rfl ?_
        refine vj_bipush G (v := 124) d_m_takesE_158 rfl ?_
        obtain ⟨r5, M5, e5, hF⟩ := bnd_some hF
        refine vj_callV0 G (ct_m_settle (gx_ij G) n 124 ic_124 e5) lkR_0 clR_0 rfl q_1647 cq_m_settle rfl (by decide) (by decide) (Nat.le_of_ble_eq_true rfl) d_m_takesE_160 rfl (fun hr5 => ?_)
        refine vj_aload_n G (p9 := 1) d_m_takesE_163 rfl rfl ?_
        refine gfR_m_121 G d_m_takesE_164 ?_
        refine vj_mr (fun hM6 => ?_)
        refine vj_if_ne G (tgt := 172) d_m_takesE_167 (by decide) (mr_o hM6 lkR_0 flR_0_36) (fun c7 => ?_) (fun c7 => ?_)
        · rw [if_pos c7] at hF
          refine vj_iload_n G (p9 := 0) d_m_takesE_172 rfl rfl ?_
          refine vj_bipush G (v := 41) d_m_takesE_173 rfl ?_
          refine vj_icmp_eq G (tgt := 180) d_m_takesE_175 (by decide) hr1 ic_41 (fun c8 => ?_) (fun c8 => ?_)
          · rw [if_pos c8] at hF
            refine vj_aload_n G (p9 := 1) d_m_takesE_180 rfl rfl ?_
            refine vj_dup G d_m_takesE_181 rfl ?_
            refine gfR_m_121 G d_m_takesE_182 ?_
            refine vj_mr (fun hM9 => ?_)
            refine vj_iconst G (v := 1) d_m_takesE_185 rfl ?_
            refine vj_isub G d_m_takesE_186 ?_
            refine pfR_m_121 G (ir_w _) d_m_takesE_187 ?_
            refine vj_aload_n G (p9 := 1) d_m_takesE_190 rfl rfl ?_
            refine vj_dup G d_m_takesE_191 rfl ?_
            refine gfR_m_127 G d_m_takesE_192 ?_
            refine vj_mr (fun hM10 => ?_)
            refine vj_iconst G (v := 1) d_m_takesE_195 rfl ?_
            refine vj_isub G d_m_takesE_196 ?_
            refine pfR_m_127 G (ir_w _) d_m_takesE_197 ?_
            refine vj_aload_n G (p9 := 1) d_m_takesE_200 rfl rfl ?_
            refine vj_dup G d_m_takesE_201 rfl ?_
            refine gfR_m_124 G d_m_takesE_202 ?_
            refine vj_mr (fun hM11 => ?_)
            refine vj_iconst G (v := 1) d_m_takesE_205 rfl ?_
            refine vj_isub G d_m_takesE_206 ?_
            refine pfR_m_124 G (ir_w _) d_m_takesE_207 ?_
            refine vj_aload_n G (p9 := 1) d_m_takesE_210 rfl rfl ?_
            refine vj_dup G d_m_takesE_211 rfl ?_
            refine gfR_m_105 G d_m_takesE_212 ?_
            refine vj_mr (fun hM12 => ?_)
            refine vj_iconst G (v := 1) d_m_takesE_215 rfl ?_
            refine vj_iadd G d_m_takesE_216 ?_
            refine pfR_m_105 G (ir_w _) d_m_takesE_217 ?_
            refine vj_aload_n G (p9 := 1) d_m_takesE_220 rfl rfl ?_
            refine vj_aload_n G (p9 := 1) d_m_takesE_221 rfl rfl ?_
            refine gfR_m_117 G d_m_takesE_222 ?_
            refine vj_aload_n G (p9 := 1) d_m_takesE_225 rfl rfl ?_
            refine gfR_m_124 G d_m_takesE_226 ?_
            refine vj_mr (fun hM13 => ?_)
            obtain ⟨c14, hF⟩ := ck_some hF
            refine vj_zald G (x := ((mset (mset (mset (mset M5 0 36 (w32 ((M5 0 36) - 1))) 0 38 (w32 (((mset M5 0 36 (w32 ((M5 0 36) - 1))) 0 38) - 1))) 0 37 (w32 (((mset (mset M5 0 36 (w32 ((M5 0 36) - 1))) 0 38 (w32 (((mset M5 0 36 (w32 ((M5 0 36) - 1))) 0 38) - 1))) 0 37) - 1))) 0 31 (w32 (((mset (mset (mset M5 0 36 (w32 ((M5 0 36) - 1))) 0 38 (w32 (((mset M5 0 36 (w32 ((M5 0 36) - 1))) 0 38) - 1))) 0 37 (w32 (((mset (mset M5 0 36 (w32 ((M5 0 36) - 1))) 0 38 (w32 (((mset M5 0 36 (w32 ((M5 0 36) - 1))) 0 38) - 1))) 0 37) - 1))) 0 31) + 1))) 0 37)) lkR_21 (by decide) c14 d_m_takesE_229 ?_
            obtain ⟨r15, M15, e15, hF⟩ := bnd_some hF
            refine vj_callV0 G (ct_m_push (gx_ij G) n ((mset (mset (mset (mset M5 0 36 (w32 ((M5 0 36) - 1))) 0 38 (w32 (((mset M5 0 36 (w32 ((M5 0 36) - 1))) 0 38) - 1))) 0 37 (w32 (((mset (mset M5 0 36 (w32 ((M5 0 36) - 1))) 0 38 (w32 (((mset M5 0 36 (w32 ((M5 0 36) - 1))) 0 38) - 1))) 0 37) - 1))) 0 31 (w32 (((mset (mset (mset M5 0 36 (w32 ((M5 0 36) - 1))) 0 38 (w32 (((mset M5 0 36 (w32 ((M5 0 36) - 1))) 0 38) - 1))) 0 37 (w32 (((mset (mset M5 0 36 (w32 ((M5 0 36) - 1))) 0 38 (w32 (((mset M5 0 36 (w32 ((M5 0 36) - 1))) 0 38) - 1))) 0 37) - 1))) 0 31) + 1))) 21 ((mset (mset (mset (mset M5 0 36 (w32 ((M5 0 36) - 1))) 0 38 (w32 (((mset M5 0 36 (w32 ((M5 0 36) - 1))) 0 38) - 1))) 0 37 (w32 (((mset (mset M5 0 36 (w32 ((M5 0 36) - 1))) 0 38 (w32 (((mset M5 0 36 (w32 ((M5 0 36) - 1))) 0 38) - 1))) 0 37) - 1))) 0 31 (w32 (((mset (mset (mset M5 0 36 (w32 ((M5 0 36) - 1))) 0 38 (w32 (((mset M5 0 36 (w32 ((M5 0 36) - 1))) 0 38) - 1))) 0 37 (w32 (((mset (mset M5 0 36 (w32 ((M5 0 36) - 1))) 0 38 (w32 (((mset M5 0 36 (w32 ((M5 0 36) - 1))) 0 38) - 1))) 0 37) - 1))) 0 31) + 1))) 0 37).toNat) (mr_az hM13 lkR_21) e15) lkR_0 clR_0 rfl q_1643 cq_m_push rfl (by decide) (by decide) (Nat.le_of_ble_eq_true rfl) d_m_takesE_230 rfl (fun hr15 => ?_)
            refine vj_goto G (tgt := 17) d_m_takesE_233 (by decide) ?_
            refine vj_sub [1, 2] rfl ?_
            exact hk17 x1 hx1 _ hF
          · rw [if_neg c8] at hF
            refine vj_iconst G (v := 0) d_m_takesE_178 rfl ?_
            cases hF
            exact vj_zret G0 (Or.inl rfl) d_m_takesE_179
        · rw [if_neg c7] at hF
          refine vj_iconst G (v := 1) d_m_takesE_170 rfl ?_
          cases hF
          exact vj_zret G0 (Or.inr rfl) d_m_takesE_171
      · rw [if_neg c4] at hF
        refine vj_sub [1, 0] rfl ?_
        exact wk_m_takesE_117 G0 n k17 hk17 r1 hr1 _ hF
  · rw [if_neg c2] at hF
    refine vj_iload_n G (p9 := 0) d_m_takesE_26 rfl rfl ?_
    refine vj_bipush G (v := 33) d_m_takesE_27 rfl ?_
    refine vj_icmp_eq G (tgt := 38) d_m_takesE_29 (by decide) hr1 ic_33 (fun c16 => ?_) (fun c16 => ?_)
    · rw [if_pos c16] at hF
      refine vj_sub [1, 2, 0] rfl ?_
      exact wk_m_takesE_38 G0 n k17 hk17 x1 r1 hx1 hr1 _ hF
    · rw [if_neg c16] at hF
      refine vj_iload_n G (p9 := 0) d_m_takesE_32 rfl rfl ?_
      refine vj_bipush G (v := 40) d_m_takesE_33 rfl ?_
      refine vj_icmp_ne G (tgt := 91) d_m_takesE_35 (by decide) hr1 ic_40 (fun c17 => ?_) (fun c17 => ?_)
      · rw [if_pos c17] at hF
        refine vj_aload_n G (p9 := 1) d_m_takesE_91 rfl rfl ?_
        obtain ⟨r18, M18, e18, hF⟩ := bnd_some hF
        refine vj_callV3 G (ct_m_takesTest (gx_ij G) n   e18) lkR_0 clR_0 rfl q_1639 cq_m_takesTest rfl (by decide) (by decide) (Nat.le_of_ble_eq_true rfl) d_m_takesE_92 rfl (fun hr18 => ?_)
        refine vj_if_eq G (tgt := 103) d_m_takesE_95 (by decide) (ir_b hr18) (fun c19 => ?_) (fun c19 => ?_)
        · rw [if_pos c19] at hF
          refine vj_iconst G (v := 0) d_m_takesE_103 rfl ?_
          cases hF
          exact vj_zret G0 (Or.inl rfl) d_m_takesE_104
        · rw [if_neg c19] at hF
          refine vj_iconst G (v := 0) d_m_takesE_98 rfl ?_
          refine vj_istore_n G (lv2 := [(1, .int (i32 0)), (2, .int (i32 r1)), (0, .ref (wa w 0))]) d_m_takesE_99 rfl (by decide) rfl ?_
          refine vj_goto G (tgt := 17) d_m_takesE_100 (by decide) ?_
          refine vj_sub [2, 0] rfl ?_
          exact hk17 0 (Or.inl rfl) _ hF
      · rw [if_neg c17] at hF
        refine vj_sub [1, 2, 0] rfl ?_
        exact wk_m_takesE_38 G0 n k17 hk17 x1 r1 hx1 hr1 _ hF
set_option maxHeartbeats 4000000 in
set_option maxRecDepth 100000 in
theorem wl_m_takesE_17 {w : Wd} {X : Cx} {r : Int} {M9 : Mm} (G0 : Gx LR w X "WhoRulesModel" b_m_takesE 3 4 88 (some .boolean)) (n : Nat) : ∀ (f : Nat) (x1 : Int) (hx1 : inB x1) (M : Mm), lp_m_takesE_17 n f x1 M = some (r, M9) → VJ LR w X 3 3 r M9 M [(0, .ref (wa w 0)), (1, .int (i32 x1))] [] 17 := by
  intro f
  induction f with
  | zero => intro x1 hx1 M hF; cases hF
  | succ f ih => intro x1 hx1 M hF; exact wk_m_takesE_17 G0 n (lp_m_takesE_17 n f) ih x1 hx1 M hF
set_option maxHeartbeats 4000000 in
set_option maxRecDepth 100000 in
theorem ct_m_takesE {w : Wd} (hij : ij LR w) (n : Nat) {M : Mm} {r : Int} {M9 : Mm} (hF : f_m_takesE n  M = some (r, M9)) : Ct LR w y_m_takesE b_m_takesE 3 (some .boolean) 4 88 3 [.ref (wa w 0)] M r M9 := by
  refine Ct.of hij KstR (by decide +kernel) (Nat.le_of_ble_eq_true rfl) (fun X G0 => ?_)
  have G := G0.1
  show VJ LR w X 3 3 r M9 M [(0, .ref (wa w 0))] [] 0
  unfold f_m_takesE at hF
  refine vj_aload_n G (p9 := 0) d_m_takesE_0 rfl rfl ?_
  refine vj_iconst G (v := 0) d_m_takesE_1 rfl ?_
  refine pfR_m_121 G ic_0 d_m_takesE_2 ?_
  refine vj_aload_n G (p9 := 0) d_m_takesE_5 rfl rfl ?_
  refine vj_iconst G (v := 0) d_m_takesE_6 rfl ?_
  refine pfR_m_124 G ic_0 d_m_takesE_7 ?_
  refine vj_aload_n G (p9 := 0) d_m_takesE_10 rfl rfl ?_
  refine vj_iconst G (v := 0) d_m_takesE_11 rfl ?_
  refine pfR_m_127 G ic_0 d_m_takesE_12 ?_
  refine vj_iconst G (v := 1) d_m_takesE_15 rfl ?_
  refine vj_istore_n G (lv2 := [(1, .int (i32 1)), (0, .ref (wa w 0))]) d_m_takesE_16 rfl (by decide) rfl ?_
  refine vj_sub [1, 0] rfl ?_
  exact wl_m_takesE_17 G0 n  n 1 (Or.inr rfl) _ hF
set_option maxHeartbeats 4000000 in
set_option maxRecDepth 100000 in
theorem wk_m_says_41 {w : Wd} {X : Cx} {r : Int} {M9 : Mm} (G0 : Gx LR w X "WhoRulesModel" b_m_says 3 3 65 (some .boolean)) (n : Nat) (x1 x2 : Int) (hx1 : inR x1) (hx2 : inR x2) (M : Mm) (hF : f_m_says_41 n x1 x2 M = some (r, M9)) : VJ LR w X 3 3 r M9 M [(0, .ref (wa w 0)), (1, .int (i32 x1)), (2, .int (i32 x2))] [] 41 := by
  have G := G0.1
  unfold f_m_says_41 at hF
  refine vj_aload_n G (p9 := 0) d_m_says_41 rfl rfl ?_
  refine gfR_m_86 G d_m_says_42 ?_
  refine vj_iload_n G (p9 := 1) d_m_says_45 rfl rfl ?_
  refine vj_aload_n G (p9 := 0) d_m_says_46 rfl rfl ?_
  refine gfR_m_108 G d_m_says_47 ?_
  refine vj_mr (fun hM1 => ?_)
  obtain ⟨c2, hF⟩ := ck_some hF
  refine vj_iast G (x := x1) lkR_17 (by decide) (by decide) (by decide) c2 (mr_o hM1 lkR_0 flR_0_32) d_m_says_50 ?_
  refine vj_aload_n G (p9 := 0) d_m_says_51 rfl rfl ?_
  refine gfR_m_89 G d_m_says_52 ?_
  refine vj_iload_n G (p9 := 1) d_m_says_55 rfl rfl ?_
  refine vj_iload_n G (p9 := 2) d_m_says_56 rfl rfl ?_
  obtain ⟨c3, hF⟩ := ck_some hF
  refine vj_iast G (x := x1) lkR_18 (by decide) (by decide) (by decide) c3 hx2 d_m_says_57 ?_
  refine vj_aload_n G (p9 := 0) d_m_says_58 rfl rfl ?_
  refine gfR_m_92 G d_m_says_59 ?_
  refine vj_iload_n G (p9 := 1) d_m_says_62 rfl rfl ?_
  refine vj_aload_n G (p9 := 0) d_m_says_63 rfl rfl ?_
  refine gfR_m_111 G d_m_says_64 ?_
  refine vj_mr (fun hM4 => ?_)
  obtain ⟨c5, hF⟩ := ck_some hF
  refine vj_iast G (x := x1) lkR_19 (by decide) (by decide) (by decide) c5 (mr_o hM4 lkR_0 flR_0_33) d_m_says_67 ?_
  refine vj_iconst G (v := 1) d_m_says_68 rfl ?_
  cases hF
  exact vj_zret G0 (Or.inr rfl) d_m_says_69
set_option maxHeartbeats 4000000 in
set_option maxRecDepth 100000 in
theorem wk_m_says_33 {w : Wd} {X : Cx} {r : Int} {M9 : Mm} (G0 : Gx LR w X "WhoRulesModel" b_m_says 3 3 65 (some .boolean)) (n : Nat) (x1 x2 s1 : Int) (hx1 : inR x1) (hx2 : inR x2) (hs1 : inB s1) (M : Mm) (hF : f_m_says_33 n x1 x2 s1 M = some (r, M9)) : VJ LR w X 3 3 r M9 M [(0, .ref (wa w 0)), (1, .int (i32 x1)), (2, .int (i32 x2))] [.int (i32 s1), .ref (wa w 0)] 33 := by
  have G := G0.1
  unfold f_m_says_33 at hF
  obtain ⟨r1, M1, e1, hF⟩ := bnd_some hF
  refine vj_callV3 G (ct_m_takesNumber (gx_ij G) n s1 hs1 e1) lkR_0 clR_0 rfl q_1620 cq_m_takesNumber rfl (by decide) (by decide) (Nat.le_of_ble_eq_true rfl) d_m_says_33 rfl (fun hr1 => ?_)
  refine vj_if_ne G (tgt := 41) d_m_says_36 (by decide) (ir_b hr1) (fun c2 => ?_) (fun c2 => ?_)
  · rw [if_pos c2] at hF
    exact wk_m_says_41 G0 n  x1 x2 hx1 hx2 _ hF
  · rw [if_neg c2] at hF
    refine vj_iconst G (v := 0) d_m_says_39 rfl ?_
    cases hF
    exact vj_zret G0 (Or.inl rfl) d_m_says_40
set_option maxHeartbeats 4000000 in
set_option maxRecDepth 100000 in
theorem wk_m_says_14 {w : Wd} {X : Cx} {r : Int} {M9 : Mm} (G0 : Gx LR w X "WhoRulesModel" b_m_says 3 3 65 (some .boolean)) (n : Nat) (x1 x2 : Int) (hx1 : inR x1) (hx2 : inR x2) (M : Mm) (hF : f_m_says_14 n x1 x2 M = some (r, M9)) : VJ LR w X 3 3 r M9 M [(0, .ref (wa w 0)), (1, .int (i32 x1)), (2, .int (i32 x2))] [] 14 := by
  have G := G0.1
  unfold f_m_says_14 at hF
  refine vj_aload_n G (p9 := 0) d_m_says_14 rfl rfl ?_
  refine vj_bipush G (v := 32) d_m_says_15 rfl ?_
  obtain ⟨r1, M1, e1, hF⟩ := bnd_some hF
  refine vj_callV3 G (ct_m_takes (gx_ij G) n 32 ic_32 e1) lkR_0 clR_0 rfl q_1616 cq_m_takes rfl (by decide) (by decide) (Nat.le_of_ble_eq_true rfl) d_m_says_17 rfl (fun hr1 => ?_)
  refine vj_if_eq G (tgt := 39) d_m_says_20 (by decide) (ir_b hr1) (fun c2 => ?_) (fun c2 => ?_)
  · rw [if_pos c2] at hF
    refine vj_iconst G (v := 0) d_m_says_39 rfl ?_
    cases hF
    exact vj_zret G0 (Or.inl rfl) d_m_says_40
  · rw [if_neg c2] at hF
    refine vj_aload_n G (p9 := 0) d_m_says_23 rfl rfl ?_
    refine vj_iload_n G (p9 := 1) d_m_says_24 rfl rfl ?_
    refine vj_if_ne G (tgt := 32) d_m_says_25 (by decide) hx1 (fun c3 => ?_) (fun c3 => ?_)
    · rw [if_pos c3] at hF
      refine vj_iconst G (v := 0) d_m_says_32 rfl ?_
      exact wk_m_says_33 G0 n  x1 x2 0 hx1 hx2 (Or.inl rfl) _ hF
    · rw [if_neg c3] at hF
      refine vj_iconst G (v := 1) d_m_says_28 rfl ?_
      refine vj_goto G (tgt := 33) d_m_says_29 (by decide) ?_
      exact wk_m_says_33 G0 n  x1 x2 1 hx1 hx2 (Or.inr rfl) _ hF
set_option maxHeartbeats 4000000 in
set_option maxRecDepth 100000 in
theorem ct_m_says {w : Wd} (hij : ij LR w) (n : Nat) (x1 : Int) (hx1 : inR x1) {M : Mm} {r : Int} {M9 : Mm} (hF : f_m_says n x1 M = some (r, M9)) : Ct LR w y_m_says b_m_says 3 (some .boolean) 3 65 3 [.ref (wa w 0), .int (i32 x1)] M r M9 := by
  refine Ct.of hij KstR (by decide +kernel) (Nat.le_of_ble_eq_true rfl) (fun X G0 => ?_)
  have G := G0.1
  show VJ LR w X 3 3 r M9 M [(0, .ref (wa w 0)), (1, .int (i32 x1))] [] 0
  unfold f_m_says at hF
  refine vj_aload_n G (p9 := 0) d_m_says_0 rfl rfl ?_
  refine gfR_m_111 G d_m_says_1 ?_
  refine vj_mr (fun hM1 => ?_)
  refine vj_istore_n G (lv2 := [(2, .int (i32 (M 0 33))), (0, .ref (wa w 0)), (1, .int (i32 x1))]) d_m_says_4 rfl (by decide) rfl ?_
  refine vj_iload_n G (p9 := 2) d_m_says_5 rfl rfl ?_
  refine vj_if_eq G (tgt := 14) d_m_says_6 (by decide) hx1 (fun c2 => ?_) (fun c2 => ?_)
  · rw [if_pos c2] at hF
    refine vj_sub [1, 2, 0] rfl ?_
    exact wk_m_says_14 G0 n  x1 (M 0 33) hx1 (mr_o hM1 lkR_0 flR_0_33) _ hF
  · rw [if_neg c2] at hF
    refine vj_iload_n G (p9 := 2) d_m_says_9 rfl rfl ?_
    refine vj_iconst G (v := 2) d_m_says_10 rfl ?_
    refine vj_icmp_ne G (tgt := 41) d_m_says_11 (by decide) hx1 ic_2 (fun c3 => ?_) (fun c3 => ?_)
    · rw [if_pos c3] at hF
      refine vj_sub [1, 2, 0] rfl ?_
      exact wk_m_says_41 G0 n  x1 (M 0 33) hx1 (mr_o hM1 lkR_0 flR_0_33) _ hF
    · rw [if_neg c3] at hF
      refine vj_sub [1, 2, 0] rfl ?_
      exact wk_m_says_14 G0 n  x1 (M 0 33) hx1 (mr_o hM1 lkR_0 flR_0_33) _ hF
set_option maxHeartbeats 4000000 in
set_option maxRecDepth 100000 in
theorem wk_m_takesClause_186 {w : Wd} {X : Cx} {r : Int} {M9 : Mm} (G0 : Gx LR w X "WhoRulesModel" b_m_takesClause 1 5 110 (some .boolean)) (n : Nat) (M : Mm) (hF : f_m_takesClause_186 n  M = some (r, M9)) : VJ LR w X 1 3 r M9 M [] [] 186 := by
  have G := G0.1
  unfold f_m_takesClause_186 at hF
  refine vj_iconst G (v := 0) d_m_takesClause_186 rfl ?_
  cases hF
  exact vj_zret G0 (Or.inl rfl) d_m_takesClause_187
set_option maxHeartbeats 4000000 in
set_option maxRecDepth 100000 in
theorem wk_m_takesClause_188 {w : Wd} {X : Cx} {r : Int} {M9 : Mm} (G0 : Gx LR w X "WhoRulesModel" b_m_takesClause 1 5 110 (some .boolean)) (n : Nat) (M : Mm) (hF : f_m_takesClause_188 n  M = some (r, M9)) : VJ LR w X 1 3 r M9 M [(0, .ref (wa w 0))] [] 188 := by
  have G := G0.1
  unfold f_m_takesClause_188 at hF
  refine vj_aload_n G (p9 := 0) d_m_takesClause_188 rfl rfl ?_
  refine vj_ldcw G (v := 20321456) d_m_takesClause_189 q_1634 rfl ?_
  refine vj_iconst G (v := 5) d_m_takesClause_192 rfl ?_
  obtain ⟨r1, M1, e1, hF⟩ := bnd_some hF
  refine vj_callV3 G (ct_m_takesWord (gx_ij G) n 20321456 5 ic_20321456 ic_5 e1) lkR_0 clR_0 rfl q_1612 cq_m_takesWord rfl (by decide) (by decide) (Nat.le_of_ble_eq_true rfl) d_m_takesClause_193 rfl (fun hr1 => ?_)
  refine vj_if_eq G (tgt := 206) d_m_takesClause_196 (by decide) (ir_b hr1) (fun c2 => ?_) (fun c2 => ?_)
  · rw [if_pos c2] at hF
    refine vj_iconst G (v := 0) d_m_takesClause_206 rfl ?_
    cases hF
    exact vj_zret G0 (Or.inl rfl) d_m_takesClause_207
  · rw [if_neg c2] at hF
    refine vj_aload_n G (p9 := 0) d_m_takesClause_199 rfl rfl ?_
    obtain ⟨r3, M3, e3, hF⟩ := bnd_some hF
    refine vj_callV3 G (ct_m_takesE (gx_ij G) n   e3) lkR_0 clR_0 rfl q_1635 cq_m_takesE rfl (by decide) (by decide) (Nat.le_of_ble_eq_true rfl) d_m_takesClause_200 rfl (fun hr3 => ?_)
    refine vj_if_ne G (tgt := 208) d_m_takesClause_203 (by decide) (ir_b hr3) (fun c4 => ?_) (fun c4 => ?_)
    · rw [if_pos c4] at hF
      refine vj_aload_n G (p9 := 0) d_m_takesClause_208 rfl rfl ?_
      refine vj_aload_n G (p9 := 0) d_m_takesClause_209 rfl rfl ?_
      refine gfR_m_117 G d_m_takesClause_210 ?_
      refine vj_iconst G (v := 0) d_m_takesClause_213 rfl ?_
      refine vj_zald G (x := 0) lkR_21 (by decide) ⟨by decide, by decide⟩ d_m_takesClause_214 ?_
      refine vj_mr (fun hM5 => ?_)
      refine pfR_m_95 G (mr_az hM5 lkR_21) d_m_takesClause_215 ?_
      refine vj_aload_n G (p9 := 0) d_m_takesClause_218 rfl rfl ?_
      refine vj_iconst G (v := 4) d_m_takesClause_219 rfl ?_
      obtain ⟨r6, M6, e6, hF⟩ := bnd_some hF
      refine vj_callV3 G (ct_m_says (gx_ij G) n 4 ic_4 e6) lkR_0 clR_0 rfl q_1628 cq_m_says rfl (by decide) (by decide) (Nat.le_of_ble_eq_true rfl) d_m_takesClause_220 rfl (fun hr6 => ?_)
      cases hF
      exact vj_zret G0 hr6 d_m_takesClause_223
    · rw [if_neg c4] at hF
      refine vj_iconst G (v := 0) d_m_takesClause_206 rfl ?_
      cases hF
      exact vj_zret G0 (Or.inl rfl) d_m_takesClause_207
set_option maxHeartbeats 4000000 in
set_option maxRecDepth 100000 in
theorem wk_m_takesClause_120 {w : Wd} {X : Cx} {r : Int} {M9 : Mm} (G0 : Gx LR w X "WhoRulesModel" b_m_takesClause 1 5 110 (some .boolean)) (n : Nat) (M : Mm) (hF : f_m_takesClause_120 n  M = some (r, M9)) : VJ LR w X 1 3 r M9 M [] [] 120 := by
  have G := G0.1
  unfold f_m_takesClause_120 at hF
  refine vj_iconst G (v := 0) d_m_takesClause_120 rfl ?_
  cases hF
  exact vj_zret G0 (Or.inl rfl) d_m_takesClause_121
set_option maxHeartbeats 4000000 in
set_option maxRecDepth 100000 in
theorem wk_m_takesClause_87 {w : Wd} {X : Cx} {r : Int} {M9 : Mm} (G0 : Gx LR w X "WhoRulesModel" b_m_takesClause 1 5 110 (some .boolean)) (n : Nat) (M : Mm) (hF : f_m_takesClause_87 n  M = some (r, M9)) : VJ LR w X 1 3 r M9 M [] [] 87 := by
  have G := G0.1
  unfold f_m_takesClause_87 at hF
  refine vj_iconst G (v := 0) d_m_takesClause_87 rfl ?_
  cases hF
  exact vj_zret G0 (Or.inl rfl) d_m_takesClause_88
set_option maxHeartbeats 4000000 in
set_option maxRecDepth 100000 in
theorem wk_m_takesClause_153 {w : Wd} {X : Cx} {r : Int} {M9 : Mm} (G0 : Gx LR w X "WhoRulesModel" b_m_takesClause 1 5 110 (some .boolean)) (n : Nat) (M : Mm) (hF : f_m_takesClause_153 n  M = some (r, M9)) : VJ LR w X 1 3 r M9 M [] [] 153 := by
  have G := G0.1
  unfold f_m_takesClause_153 at hF
  refine vj_iconst G (v := 0) d_m_takesClause_153 rfl ?_
  cases hF
  exact vj_zret G0 (Or.inl rfl) d_m_takesClause_154
set_option maxHeartbeats 4000000 in
set_option maxRecDepth 100000 in
theorem ct_m_takesClause {w : Wd} (hij : ij LR w) (n : Nat) {M : Mm} {r : Int} {M9 : Mm} (hF : f_m_takesClause n  M = some (r, M9)) : Ct LR w y_m_takesClause b_m_takesClause 1 (some .boolean) 5 110 3 [.ref (wa w 0)] M r M9 := by
  refine Ct.of hij KstR (by decide +kernel) (Nat.le_of_ble_eq_true rfl) (fun X G0 => ?_)
  have G := G0.1
  show VJ LR w X 1 3 r M9 M [(0, .ref (wa w 0))] [] 0
  unfold f_m_takesClause at hF
  refine vj_aload_n G (p9 := 0) d_m_takesClause_0 rfl rfl ?_
  obtain ⟨r1, M1, e1, hF⟩ := bnd_some hF
  refine vj_callV1 G (ct_m_next (gx_ij G) n   e1) lkR_0 clR_0 rfl q_1607 cq_m_next rfl (by decide) (by decide) (Nat.le_of_ble_eq_true rfl) d_m_takesClause_1 rfl (fun hr1 => ?_)
  by_cases c2 : r1 = 103
  · rw [if_pos c2] at hF
    refine vj_swIn G (y := 103) (tgt := 155) d_m_takesClause_4 hr1 c2 (by decide) (by decide) rfl (by decide) ?_
    refine vj_aload_n G (p9 := 0) d_m_takesClause_155 rfl rfl ?_
    refine vj_ldcw G (v := 245124) d_m_takesClause_156 q_1633 rfl ?_
    refine vj_iconst G (v := 4) d_m_takesClause_159 rfl ?_
    obtain ⟨r3, M3, e3, hF⟩ := bnd_some hF
    refine vj_callV3 G (ct_m_takesWord (gx_ij G) n 245124 4 ic_245124 ic_4 e3) lkR_0 clR_0 rfl q_1612 cq_m_takesWord rfl (by decide) (by decide) (Nat.le_of_ble_eq_true rfl) d_m_takesClause_160 rfl (fun hr3 => ?_)
    refine vj_if_eq G (tgt := 186) d_m_takesClause_163 (by decide) (ir_b hr3) (fun c4 => ?_) (fun c4 => ?_)
    · rw [if_pos c4] at hF
      refine vj_sub [] rfl ?_
      exact wk_m_takesClause_186 G0 n    _ hF
    · rw [if_neg c4] at hF
      refine vj_aload_n G (p9 := 0) d_m_takesClause_166 rfl rfl ?_
      refine vj_iconst G (v := 0) d_m_takesClause_167 rfl ?_
      obtain ⟨r5, M5, e5, hF⟩ := bnd_some hF
      refine vj_callV3 G (ct_m_takesNumber (gx_ij G) n 0 (Or.inl rfl) e5) lkR_0 clR_0 rfl q_1620 cq_m_takesNumber rfl (by decide) (by decide) (Nat.le_of_ble_eq_true rfl) d_m_takesClause_168 rfl (fun hr5 => ?_)
      refine vj_if_eq G (tgt := 186) d_m_takesClause_171 (by decide) (ir_b hr5) (fun c6 => ?_) (fun c6 => ?_)
      · rw [if_pos c6] at hF
        refine vj_sub [] rfl ?_
        exact wk_m_takesClause_186 G0 n    _ hF
      · rw [if_neg c6] at hF
        refine vj_aload_n G (p9 := 0) d_m_takesClause_174 rfl rfl ?_
        refine vj_iconst G (v := 3) d_m_takesClause_175 rfl ?_
        obtain ⟨r7, M7, e7, hF⟩ := bnd_some hF
        refine vj_callV3 G (ct_m_says (gx_ij G) n 3 ic_3 e7) lkR_0 clR_0 rfl q_1628 cq_m_says rfl (by decide) (by decide) (Nat.le_of_ble_eq_true rfl) d_m_takesClause_176 rfl (fun hr7 => ?_)
        refine vj_if_eq G (tgt := 186) d_m_takesClause_179 (by decide) (ir_b hr7) (fun c8 => ?_) (fun c8 => ?_)
        · rw [if_pos c8] at hF
          refine vj_sub [] rfl ?_
          exact wk_m_takesClause_186 G0 n    _ hF
        · rw [if_neg c8] at hF
          refine vj_iconst G (v := 1) d_m_takesClause_182 rfl ?_
          refine vj_goto G (tgt := 187) d_m_takesClause_183 (by decide) ?_
          cases hF
          exact vj_zret G0 (Or.inr rfl) d_m_takesClause_187
  · rw [if_neg c2] at hF
    by_cases c9 : r1 = 104
    · rw [if_pos c9] at hF
      refine vj_swIn G (y := 104) (tgt := 188) d_m_takesClause_4 hr1 c9 (by decide) (by decide) rfl (by decide) ?_
      exact wk_m_takesClause_188 G0 n    _ hF
    · rw [if_neg c9] at hF
      by_cases c10 : r1 = 105
      · rw [if_pos c10] at hF
        refine vj_swIn G (y := 105) (tgt := 188) d_m_takesClause_4 hr1 c10 (by decide) (by decide) rfl (by decide) ?_
        exact wk_m_takesClause_188 G0 n    _ hF
      · rw [if_neg c10] at hF
        by_cases c11 : r1 = 106
        · rw [if_pos c11] at hF
          refine vj_swIn G (y := 106) (tgt := 188) d_m_takesClause_4 hr1 c11 (by decide) (by decide) rfl (by decide) ?_
          exact wk_m_takesClause_188 G0 n    _ hF
        · rw [if_neg c11] at hF
          by_cases c12 : r1 = 107
          · rw [if_pos c12] at hF
            refine vj_swIn G (y := 107) (tgt := 188) d_m_takesClause_4 hr1 c12 (by decide) (by decide) rfl (by decide) ?_
            exact wk_m_takesClause_188 G0 n    _ hF
          · rw [if_neg c12] at hF
            by_cases c13 : r1 = 108
            · rw [if_pos c13] at hF
              refine vj_swIn G (y := 108) (tgt := 188) d_m_takesClause_4 hr1 c13 (by decide) (by decide) rfl (by decide) ?_
              exact wk_m_takesClause_188 G0 n    _ hF
            · rw [if_neg c13] at hF
              by_cases c14 : r1 = 109
              · rw [if_pos c14] at hF
                refine vj_swIn G (y := 109) (tgt := 89) d_m_takesClause_4 hr1 c14 (by decide) (by decide) rfl (by decide) ?_
                refine vj_aload_n G (p9 := 0) d_m_takesClause_89 rfl rfl ?_
                refine vj_ldcw G (v := 441972) d_m_takesClause_90 q_1632 rfl ?_
                refine vj_iconst G (v := 4) d_m_takesClause_93 rfl ?_
                obtain ⟨r15, M15, e15, hF⟩ := bnd_some hF
                refine vj_callV3 G (ct_m_takesWord (gx_ij G) n 441972 4 ic_441972 ic_4 e15) lkR_0 clR_0 rfl q_1612 cq_m_takesWord rfl (by decide) (by decide) (Nat.le_of_ble_eq_true rfl) d_m_takesClause_94 rfl (fun hr15 => ?_)
                refine vj_if_eq G (tgt := 120) d_m_takesClause_97 (by decide) (ir_b hr15) (fun c16 => ?_) (fun c16 => ?_)
                · rw [if_pos c16] at hF
                  refine vj_sub [] rfl ?_
                  exact wk_m_takesClause_120 G0 n    _ hF
                · rw [if_neg c16] at hF
                  refine vj_aload_n G (p9 := 0) d_m_takesClause_100 rfl rfl ?_
                  refine vj_iconst G (v := 0) d_m_takesClause_101 rfl ?_
                  obtain ⟨r17, M17, e17, hF⟩ := bnd_some hF
                  refine vj_callV3 G (ct_m_takesNumber (gx_ij G) n 0 (Or.inl rfl) e17) lkR_0 clR_0 rfl q_1620 cq_m_takesNumber rfl (by decide) (by decide) (Nat.le_of_ble_eq_true rfl) d_m_takesClause_102 rfl (fun hr17 => ?_)
                  refine vj_if_eq G (tgt := 120) d_m_takesClause_105 (by decide) (ir_b hr17) (fun c18 => ?_) (fun c18 => ?_)
                  · rw [if_pos c18] at hF
                    refine vj_sub [] rfl ?_
                    exact wk_m_takesClause_120 G0 n    _ hF
                  · rw [if_neg c18] at hF
                    refine vj_aload_n G (p9 := 0) d_m_takesClause_108 rfl rfl ?_
                    refine vj_iconst G (v := 1) d_m_takesClause_109 rfl ?_
                    obtain ⟨r19, M19, e19, hF⟩ := bnd_some hF
                    refine vj_callV3 G (ct_m_says (gx_ij G) n 1 ic_1 e19) lkR_0 clR_0 rfl q_1628 cq_m_says rfl (by decide) (by decide) (Nat.le_of_ble_eq_true rfl) d_m_takesClause_110 rfl (fun hr19 => ?_)
                    refine vj_if_eq G (tgt := 120) d_m_takesClause_113 (by decide) (ir_b hr19) (fun c20 => ?_) (fun c20 => ?_)
                    · rw [if_pos c20] at hF
                      refine vj_sub [] rfl ?_
                      exact wk_m_takesClause_120 G0 n    _ hF
                    · rw [if_neg c20] at hF
                      refine vj_iconst G (v := 1) d_m_takesClause_116 rfl ?_
                      refine vj_goto G (tgt := 121) d_m_takesClause_117 (by decide) ?_
                      cases hF
                      exact vj_zret G0 (Or.inr rfl) d_m_takesClause_121
              · rw [if_neg c14] at hF
                by_cases c21 : r1 = 110
                · rw [if_pos c21] at hF
                  refine vj_swIn G (y := 110) (tgt := 56) d_m_takesClause_4 hr1 c21 (by decide) (by decide) rfl (by decide) ?_
                  refine vj_aload_n G (p9 := 0) d_m_takesClause_56 rfl rfl ?_
                  refine vj_ldcw G (v := 464036) d_m_takesClause_57 q_1611 rfl ?_
                  refine vj_iconst G (v := 4) d_m_takesClause_60 rfl ?_
                  obtain ⟨r22, M22, e22, hF⟩ := bnd_some hF
                  refine vj_callV3 G (ct_m_takesWord (gx_ij G) n 464036 4 ic_464036 ic_4 e22) lkR_0 clR_0 rfl q_1612 cq_m_takesWord rfl (by decide) (by decide) (Nat.le_of_ble_eq_true rfl) d_m_takesClause_61 rfl (fun hr22 => ?_)
                  refine vj_if_eq G (tgt := 87) d_m_takesClause_64 (by decide) (ir_b hr22) (fun c23 => ?_) (fun c23 => ?_)
                  · rw [if_pos c23] at hF
                    refine vj_sub [] rfl ?_
                    exact wk_m_takesClause_87 G0 n    _ hF
                  · rw [if_neg c23] at hF
                    refine vj_aload_n G (p9 := 0) d_m_takesClause_67 rfl rfl ?_
                    refine vj_iconst G (v := 0) d_m_takesClause_68 rfl ?_
                    obtain ⟨r24, M24, e24, hF⟩ := bnd_some hF
                    refine vj_callV3 G (ct_m_takesNumber (gx_ij G) n 0 (Or.inl rfl) e24) lkR_0 clR_0 rfl q_1620 cq_m_takesNumber rfl (by decide) (by decide) (Nat.le_of_ble_eq_true rfl) d_m_takesClause_69 rfl (fun hr24 => ?_)
                    refine vj_if_eq G (tgt := 87) d_m_takesClause_72 (by decide) (ir_b hr24) (fun c25 => ?_) (fun c25 => ?_)
                    · rw [if_pos c25] at hF
                      refine vj_sub [] rfl ?_
                      exact wk_m_takesClause_87 G0 n    _ hF
                    · rw [if_neg c25] at hF
                      refine vj_aload_n G (p9 := 0) d_m_takesClause_75 rfl rfl ?_
                      refine vj_iconst G (v := 0) d_m_takesClause_76 rfl ?_
                      obtain ⟨r26, M26, e26, hF⟩ := bnd_some hF
                      refine vj_callV3 G (ct_m_says (gx_ij G) n 0 ic_0 e26) lkR_0 clR_0 rfl q_1628 cq_m_says rfl (by decide) (by decide) (Nat.le_of_ble_eq_true rfl) d_m_takesClause_77 rfl (fun hr26 => ?_)
                      refine vj_if_eq G (tgt := 87) d_m_takesClause_80 (by decide) (ir_b hr26) (fun c27 => ?_) (fun c27 => ?_)
                      · rw [if_pos c27] at hF
                        refine vj_sub [] rfl ?_
                        exact wk_m_takesClause_87 G0 n    _ hF
                      · rw [if_neg c27] at hF
                        refine vj_iconst G (v := 1) d_m_takesClause_83 rfl ?_
                        refine vj_goto G (tgt := 88) d_m_takesClause_84 (by decide) ?_
                        cases hF
                        exact vj_zret G0 (Or.inr rfl) d_m_takesClause_88
                · rw [if_neg c21] at hF
                  by_cases c28 : r1 = 111
                  · rw [if_pos c28] at hF
                    refine vj_swIn G (y := 111) (tgt := 122) d_m_takesClause_4 hr1 c28 (by decide) (by decide) rfl (by decide) ?_
                    refine vj_aload_n G (p9 := 0) d_m_takesClause_122 rfl rfl ?_
                    refine vj_sipush G (v := 15748) d_m_takesClause_123 rfl ?_
                    refine vj_iconst G (v := 3) d_m_takesClause_126 rfl ?_
                    obtain ⟨r29, M29, e29, hF⟩ := bnd_some hF
                    refine vj_callV3 G (ct_m_takesWord (gx_ij G) n 15748 3 ic_15748 ic_3 e29) lkR_0 clR_0 rfl q_1612 cq_m_takesWord rfl (by decide) (by decide) (Nat.le_of_ble_eq_true rfl) d_m_takesClause_127 rfl (fun hr29 => ?_)
                    refine vj_if_eq G (tgt := 153) d_m_takesClause_130 (by decide) (ir_b hr29) (fun c30 => ?_) (fun c30 => ?_)
                    · rw [if_pos c30] at hF
                      refine vj_sub [] rfl ?_
                      exact wk_m_takesClause_153 G0 n    _ hF
                    · rw [if_neg c30] at hF
                      refine vj_aload_n G (p9 := 0) d_m_takesClause_133 rfl rfl ?_
                      refine vj_iconst G (v := 0) d_m_takesClause_134 rfl ?_
                      obtain ⟨r31, M31, e31, hF⟩ := bnd_some hF
                      refine vj_callV3 G (ct_m_takesNumber (gx_ij G) n 0 (Or.inl rfl) e31) lkR_0 clR_0 rfl q_1620 cq_m_takesNumber rfl (by decide) (by decide) (Nat.le_of_ble_eq_true rfl) d_m_takesClause_135 rfl (fun hr31 => ?_)
                      refine vj_if_eq G (tgt := 153) d_m_takesClause_138 (by decide) (ir_b hr31) (fun c32 => ?_) (fun c32 => ?_)
                      · rw [if_pos c32] at hF
                        refine vj_sub [] rfl ?_
                        exact wk_m_takesClause_153 G0 n    _ hF
                      · rw [if_neg c32] at hF
                        refine vj_aload_n G (p9 := 0) d_m_takesClause_141 rfl rfl ?_
                        refine vj_iconst G (v := 2) d_m_takesClause_142 rfl ?_
                        obtain ⟨r33, M33, e33, hF⟩ := bnd_some hF
                        refine vj_callV3 G (ct_m_says (gx_ij G) n 2 ic_2 e33) lkR_0 clR_0 rfl q_1628 cq_m_says rfl (by decide) (by decide) (Nat.le_of_ble_eq_true rfl) d_m_takesClause_143 rfl (fun hr33 => ?_)
                        refine vj_if_eq G (tgt := 153) d_m_takesClause_146 (by decide) (ir_b hr33) (fun c34 => ?_) (fun c34 => ?_)
                        · rw [if_pos c34] at hF
                          refine vj_sub [] rfl ?_
                          exact wk_m_takesClause_153 G0 n    _ hF
                        · rw [if_neg c34] at hF
                          refine vj_iconst G (v := 1) d_m_takesClause_149 rfl ?_
                          refine vj_goto G (tgt := 154) d_m_takesClause_150 (by decide) ?_
                          cases hF
                          exact vj_zret G0 (Or.inr rfl) d_m_takesClause_154
                  · rw [if_neg c28] at hF
                    refine vj_swOut G (tgt := 188) d_m_takesClause_4 hr1 (by omega) (by decide) ?_
                    exact wk_m_takesClause_188 G0 n    _ hF
set_option maxHeartbeats 4000000 in
set_option maxRecDepth 100000 in
theorem wk_m_goes_48 {w : Wd} {X : Cx} {r : Int} {M9 : Mm} (G0 : Gx LR w X "WhoRulesModel" b_m_goes 3 6 130 (some .boolean)) (n : Nat) (k48 : Mm → Rr) (hk48 : ∀  (M : Mm), k48  M = some (r, M9) → VJ LR w X 3 3 r M9 M [(0, .ref (wa w 0))] [] 48) (M : Mm) (hF : f_m_goes_48 n k48  M = some (r, M9)) : VJ LR w X 3 3 r M9 M [(0, .ref (wa w 0))] [] 48 := by
  have G := G0.1
  unfold f_m_goes_48 at hF
  refine vj_aload_n G (p9 := 0) d_m_goes_48 rfl rfl ?_
  obtain ⟨r1, M1, e1, hF⟩ := bnd_some hF
  refine vj_callV3 G (ct_m_takesClause (gx_ij G) n   e1) lkR_0 clR_0 rfl q_1603 cq_m_takesClause rfl (by decide) (by decide) (Nat.le_of_ble_eq_true rfl) d_m_goes_49 rfl (fun hr1 => ?_)
  refine vj_if_ne G (tgt := 57) d_m_goes_52 (by decide) (ir_b hr1) (fun c2 => ?_) (fun c2 => ?_)
  · rw [if_pos c2] at hF
    refine vj_aload_n G (p9 := 0) d_m_goes_57 rfl rfl ?_
    refine vj_dup G d_m_goes_58 rfl ?_
    refine gfR_m_108 G d_m_goes_59 ?_
    refine vj_mr (fun hM3 => ?_)
    refine vj_iconst G (v := 1) d_m_goes_62 rfl ?_
    refine vj_iadd G d_m_goes_63 ?_
    refine pfR_m_108 G (ir_w _) d_m_goes_64 ?_
    refine vj_aload_n G (p9 := 0) d_m_goes_67 rfl rfl ?_
    refine gfR_m_105 G d_m_goes_68 ?_
    refine vj_mr (fun hM4 => ?_)
    refine vj_aload_n G (p9 := 0) d_m_goes_71 rfl rfl ?_
    refine gfR_m_102 G d_m_goes_72 ?_
    refine vj_icmp_ne G (tgt := 80) d_m_goes_75 (by decide) (mr_o hM4 lkR_0 flR_0_31) (mr_o hM4 lkR_0 flR_0_30) (fun c5 => ?_) (fun c5 => ?_)
    · rw [if_pos c5] at hF
      refine vj_aload_n G (p9 := 0) d_m_goes_80 rfl rfl ?_
      refine gfR_m_108 G d_m_goes_81 ?_
      refine vj_mr (fun hM6 => ?_)
      refine vj_bipush G (v := 6) d_m_goes_84 rfl ?_
      refine vj_icmp_eq G (tgt := 98) d_m_goes_86 (by decide) (mr_o hM6 lkR_0 flR_0_32) ic_6 (fun c7 => ?_) (fun c7 => ?_)
      · rw [if_pos c7] at hF
        refine vj_iconst G (v := 0) d_m_goes_98 rfl ?_
        cases hF
        exact vj_zret G0 (Or.inl rfl) d_m_goes_99
      · rw [if_neg c7] at hF
        refine vj_aload_n G (p9 := 0) d_m_goes_89 rfl rfl ?_
        refine vj_bipush G (v := 59) d_m_goes_90 rfl ?_
        obtain ⟨r8, M8, e8, hF⟩ := bnd_some hF
        refine vj_callV3 G (ct_m_takes (gx_ij G) n 59 ic_59 e8) lkR_0 clR_0 rfl q_1616 cq_m_takes rfl (by decide) (by decide) (Nat.le_of_ble_eq_true rfl) d_m_goes_92 rfl (fun hr8 => ?_)
        refine vj_if_ne G (tgt := 48) d_m_goes_95 (by decide) (ir_b hr8) (fun c9 => ?_) (fun c9 => ?_)
        · rw [if_pos c9] at hF
          exact hk48   _ hF
        · rw [if_neg c9] at hF
          refine vj_iconst G (v := 0) d_m_goes_98 rfl ?_
          cases hF
          exact vj_zret G0 (Or.inl rfl) d_m_goes_99
    · rw [if_neg c5] at hF
      refine vj_iconst G (v := 1) d_m_goes_78 rfl ?_
      cases hF
      exact vj_zret G0 (Or.inr rfl) d_m_goes_79
  · rw [if_neg c2] at hF
    refine vj_iconst G (v := 0) d_m_goes_55 rfl ?_
    cases hF
    exact vj_zret G0 (Or.inl rfl) d_m_goes_56
set_option maxHeartbeats 4000000 in
set_option maxRecDepth 100000 in
theorem wl_m_goes_48 {w : Wd} {X : Cx} {r : Int} {M9 : Mm} (G0 : Gx LR w X "WhoRulesModel" b_m_goes 3 6 130 (some .boolean)) (n : Nat) : ∀ (f : Nat) (M : Mm), lp_m_goes_48 n f  M = some (r, M9) → VJ LR w X 3 3 r M9 M [(0, .ref (wa w 0))] [] 48 := by
  intro f
  induction f with
  | zero => intro   M hF; cases hF
  | succ f ih => intro   M hF; exact wk_m_goes_48 G0 n (lp_m_goes_48 n f) ih   M hF
set_option maxHeartbeats 4000000 in
set_option maxRecDepth 100000 in
theorem wk_m_goes_30 {w : Wd} {X : Cx} {r : Int} {M9 : Mm} (G0 : Gx LR w X "WhoRulesModel" b_m_goes 3 6 130 (some .boolean)) (n : Nat) (k30 : Int → Mm → Rr) (hk30 : ∀ (x2 : Int) (hx2 : inR x2) (M : Mm), k30 x2 M = some (r, M9) → VJ LR w X 3 3 r M9 M [(0, .ref (wa w 0)), (2, .int (i32 x2))] [] 30) (x2 : Int) (hx2 : inR x2) (M : Mm) (hF : f_m_goes_30 n k30 x2 M = some (r, M9)) : VJ LR w X 3 3 r M9 M [(0, .ref (wa w 0)), (2, .int (i32 x2))] [] 30 := by
  have G := G0.1
  unfold f_m_goes_30 at hF
  refine vj_iload_n G (p9 := 1) d_m_goes_30 rfl rfl ?_
  refine vj_iconst G (v := 5) d_m_goes_31 rfl ?_
  refine vj_icmp_ge G (tgt := 48) d_m_goes_32 (by decide) hx2 ic_5 (fun c1 => ?_) (fun c1 => ?_)
  · rw [if_pos c1] at hF
    refine vj_sub [0] rfl ?_
    exact wl_m_goes_48 G0 n  n   _ hF
  · rw [if_neg c1] at hF
    refine vj_aload_n G (p9 := 0) d_m_goes_35 rfl rfl ?_
    refine gfR_m_86 G d_m_goes_36 ?_
    refine vj_iload_n G (p9 := 1) d_m_goes_39 rfl rfl ?_
    refine vj_iconst G (v := (-1)) d_m_goes_40 rfl ?_
    obtain ⟨c2, hF⟩ := ck_some hF
    refine vj_iast G (x := x2) lkR_17 (by decide) (by decide) (by decide) c2 ic_m1 d_m_goes_41 ?_
    refine vj_iinc G (p9 := 1) (n := 1) (lv2 := [(2, .int (i32 (w32 (x2 + 1)))), (0, .ref (wa w 0))]) d_m_goes_42 rfl (by decide) rfl ?_
    refine vj_goto G (tgt := 30) d_m_goes_45 (by decide) ?_
    refine vj_sub [1, 0] rfl ?_
    exact hk30 (w32 (x2 + 1)) (ir_w _) _ hF
set_option maxHeartbeats 4000000 in
set_option maxRecDepth 100000 in
theorem wl_m_goes_30 {w : Wd} {X : Cx} {r : Int} {M9 : Mm} (G0 : Gx LR w X "WhoRulesModel" b_m_goes 3 6 130 (some .boolean)) (n : Nat) : ∀ (f : Nat) (x2 : Int) (hx2 : inR x2) (M : Mm), lp_m_goes_30 n f x2 M = some (r, M9) → VJ LR w X 3 3 r M9 M [(0, .ref (wa w 0)), (2, .int (i32 x2))] [] 30 := by
  intro f
  induction f with
  | zero => intro x2 hx2 M hF; cases hF
  | succ f ih => intro x2 hx2 M hF; exact wk_m_goes_30 G0 n (lp_m_goes_30 n f) ih x2 hx2 M hF
set_option maxHeartbeats 4000000 in
set_option maxRecDepth 100000 in
theorem ct_m_goes {w : Wd} (hij : ij LR w) (n : Nat) (x1 : Int) (hx1 : inR x1) {M : Mm} {r : Int} {M9 : Mm} (hF : f_m_goes n x1 M = some (r, M9)) : Ct LR w y_m_goes b_m_goes 3 (some .boolean) 6 130 3 [.ref (wa w 0), .int (i32 x1)] M r M9 := by
  refine Ct.of hij KstR (by decide +kernel) (Nat.le_of_ble_eq_true rfl) (fun X G0 => ?_)
  have G := G0.1
  show VJ LR w X 3 3 r M9 M [(0, .ref (wa w 0)), (1, .int (i32 x1))] [] 0
  unfold f_m_goes at hF
  refine vj_aload_n G (p9 := 0) d_m_goes_0 rfl rfl ?_
  refine vj_bipush G (v := 100) d_m_goes_1 rfl ?_
  refine vj_iload_n G (p9 := 1) d_m_goes_3 rfl rfl ?_
  refine vj_imul G d_m_goes_4 ?_
  refine pfR_m_99 G (ir_w _) d_m_goes_5 ?_
  refine vj_aload_n G (p9 := 0) d_m_goes_8 rfl rfl ?_
  refine vj_aload_n G (p9 := 0) d_m_goes_9 rfl rfl ?_
  refine gfR_m_80 G d_m_goes_10 ?_
  refine vj_iload_n G (p9 := 1) d_m_goes_13 rfl rfl ?_
  obtain ⟨c1, hF⟩ := ck_some hF
  refine vj_iald G (x := x1) lkR_15 (by decide) c1 d_m_goes_14 ?_
  refine vj_mr (fun hM2 => ?_)
  refine pfR_m_102 G (mr_a hM2 lkR_15) d_m_goes_15 ?_
  refine vj_aload_n G (p9 := 0) d_m_goes_18 rfl rfl ?_
  refine vj_iconst G (v := 0) d_m_goes_19 rfl ?_
  refine pfR_m_105 G ic_0 d_m_goes_20 ?_
  refine vj_aload_n G (p9 := 0) d_m_goes_23 rfl rfl ?_
  refine vj_iconst G (v := 0) d_m_goes_24 rfl ?_
  refine pfR_m_108 G ic_0 d_m_goes_25 ?_
  refine vj_iconst G (v := 0) d_m_goes_28 rfl ?_
  refine vj_istore_n G (lv2 := [(2, .int (i32 0)), (0, .ref (wa w 0)), (1, .int (i32 x1))]) d_m_goes_29 rfl (by decide) rfl ?_
  refine vj_sub [1, 0] rfl ?_
  exact wl_m_goes_30 G0 n  n 0 ic_0 _ hF
set_option maxHeartbeats 4000000 in
set_option maxRecDepth 100000 in
theorem wk_m_charter_84 {w : Wd} {X : Cx} {r : Int} {M9 : Mm} (G0 : Gx LR w X "WhoRulesModel" b_m_charter 4 7 152 (some .int)) (n : Nat) (k84 : Int → Int → Int → Mm → Rr) (hk84 : ∀ (x1 x2 x3 : Int) (hx1 : inR x1) (hx2 : inR x2) (hx3 : inR x3) (M : Mm), k84 x1 x2 x3 M = some (r, M9) → VJ LR w X 4 1 r M9 M [(0, .ref (wa w 0)), (1, .int (i32 x1)), (2, .int (i32 x2)), (3, .int (i32 x3))] [] 84) (x1 x2 x3 : Int) (hx1 : inR x1) (hx2 : inR x2) (hx3 : inR x3) (M : Mm) (hF : f_m_charter_84 n k84 x1 x2 x3 M = some (r, M9)) : VJ LR w X 4 1 r M9 M [(0, .ref (wa w 0)), (1, .int (i32 x1)), (2, .int (i32 x2)), (3, .int (i32 x3))] [] 84 := by
  have G := G0.1
  unfold f_m_charter_84 at hF
  refine vj_iload_n G (p9 := 3) d_m_charter_84 rfl rfl ?_
  refine vj_aload_n G (p9 := 0) d_m_charter_85 rfl rfl ?_
  refine gfR_m_80 G d_m_charter_86 ?_
  refine vj_bipush G (v := 20) d_m_charter_89 rfl ?_
  refine vj_iald G (x := 20) lkR_15 (by decide) ⟨by decide, by decide⟩ d_m_charter_91 ?_
  refine vj_mr (fun hM1 => ?_)
  refine vj_icmp_ge G (tgt := 125) d_m_charter_92 (by decide) hx3 (mr_a hM1 lkR_15) (fun c2 => ?_) (fun c2 => ?_)
  · rw [if_pos c2] at hF
    refine vj_aload_n G (p9 := 0) d_m_charter_125 rfl rfl ?_
    refine gfR_m_71 G d_m_charter_126 ?_
    refine vj_aload_n G (p9 := 0) d_m_charter_129 rfl rfl ?_
    refine gfR_m_65 G d_m_charter_130 ?_
    refine vj_mr (fun hM3 => ?_)
    refine vj_iload_n G (p9 := 1) d_m_charter_133 rfl rfl ?_
    obtain ⟨c4, hF⟩ := ck_some hF
    refine vj_iast G (x := (M 0 18)) lkR_12 (by decide) (by decide) (by decide) c4 hx1 d_m_charter_134 ?_
    refine vj_aload_n G (p9 := 0) d_m_charter_135 rfl rfl ?_
    refine gfR_m_74 G d_m_charter_136 ?_
    refine vj_aload_n G (p9 := 0) d_m_charter_139 rfl rfl ?_
    refine gfR_m_65 G d_m_charter_140 ?_
    refine vj_mr (fun hM5 => ?_)
    refine vj_iload_n G (p9 := 2) d_m_charter_143 rfl rfl ?_
    obtain ⟨c6, hF⟩ := ck_some hF
    refine vj_iast G (x := ((mset M 12 (M 0 18).toNat x1) 0 18)) lkR_13 (by decide) (by decide) (by decide) c6 hx2 d_m_charter_144 ?_
    refine vj_aload_n G (p9 := 0) d_m_charter_145 rfl rfl ?_
    refine vj_dup G d_m_charter_146 rfl ?_
    refine gfR_m_65 G d_m_charter_147 ?_
    refine vj_mr (fun hM7 => ?_)
    refine vj_iconst G (v := 1) d_m_charter_150 rfl ?_
    refine vj_iadd G d_m_charter_151 ?_
    refine pfR_m_65 G (ir_w _) d_m_charter_152 ?_
    refine vj_aload_n G (p9 := 0) d_m_charter_155 rfl rfl ?_
    refine gfR_m_65 G d_m_charter_156 ?_
    refine vj_mr (fun hM8 => ?_)
    refine vj_iconst G (v := 1) d_m_charter_159 rfl ?_
    refine vj_isub G d_m_charter_160 ?_
    cases hF
    exact vj_iret G0 (ir_w _) d_m_charter_161
  · rw [if_neg c2] at hF
    refine vj_aload_n G (p9 := 0) d_m_charter_95 rfl rfl ?_
    refine gfR_m_77 G d_m_charter_96 ?_
    refine vj_bipush G (v := 100) d_m_charter_99 rfl ?_
    refine vj_aload_n G (p9 := 0) d_m_charter_101 rfl rfl ?_
    refine gfR_m_65 G d_m_charter_102 ?_
    refine vj_mr (fun hM9 => ?_)
    refine vj_imul G d_m_charter_105 ?_
    refine vj_iload_n G (p9 := 3) d_m_charter_106 rfl rfl ?_
    refine vj_iadd G d_m_charter_107 ?_
    refine vj_aload_n G (p9 := 0) d_m_charter_108 rfl rfl ?_
    refine gfR_m_77 G d_m_charter_109 ?_
    refine vj_sipush G (v := 2000) d_m_charter_112 rfl ?_
    refine vj_iload_n G (p9 := 3) d_m_charter_115 rfl rfl ?_
    refine vj_iadd G d_m_charter_116 ?_
    obtain ⟨c10, hF⟩ := ck_some hF
    refine vj_iald G (x := w32 (2000 + x3)) lkR_14 (by decide) c10 d_m_charter_117 ?_
    obtain ⟨c11, hF⟩ := ck_some hF
    refine vj_iast G (x := w32 ((w32 (100 * (M 0 18))) + x3)) lkR_14 (by decide) (by decide) (by decide) c11 (mr_a hM9 lkR_14) d_m_charter_118 ?_
    refine vj_iinc G (p9 := 3) (n := 1) (lv2 := [(3, .int (i32 (w32 (x3 + 1)))), (0, .ref (wa w 0)), (1, .int (i32 x1)), (2, .int (i32 x2))]) d_m_charter_119 rfl (by decide) rfl ?_
    refine vj_goto G (tgt := 84) d_m_charter_122 (by decide) ?_
    refine vj_sub [1, 2, 3, 0] rfl ?_
    exact hk84 x1 x2 (w32 (x3 + 1)) hx1 hx2 (ir_w _) _ hF
set_option maxHeartbeats 4000000 in
set_option maxRecDepth 100000 in
theorem wl_m_charter_84 {w : Wd} {X : Cx} {r : Int} {M9 : Mm} (G0 : Gx LR w X "WhoRulesModel" b_m_charter 4 7 152 (some .int)) (n : Nat) : ∀ (f : Nat) (x1 x2 x3 : Int) (hx1 : inR x1) (hx2 : inR x2) (hx3 : inR x3) (M : Mm), lp_m_charter_84 n f x1 x2 x3 M = some (r, M9) → VJ LR w X 4 1 r M9 M [(0, .ref (wa w 0)), (1, .int (i32 x1)), (2, .int (i32 x2)), (3, .int (i32 x3))] [] 84 := by
  intro f
  induction f with
  | zero => intro x1 x2 x3 hx1 hx2 hx3 M hF; cases hF
  | succ f ih => intro x1 x2 x3 hx1 hx2 hx3 M hF; exact wk_m_charter_84 G0 n (lp_m_charter_84 n f) ih x1 x2 x3 hx1 hx2 hx3 M hF
set_option maxHeartbeats 4000000 in
set_option maxRecDepth 100000 in
theorem ct_m_charter {w : Wd} (hij : ij LR w) (n : Nat) (x1 x2 : Int) (hx1 : inR x1) (hx2 : inR x2) {M : Mm} {r : Int} {M9 : Mm} (hF : f_m_charter n x1 x2 M = some (r, M9)) : Ct LR w y_m_charter b_m_charter 4 (some .int) 7 152 1 [.ref (wa w 0), .int (i32 x1), .int (i32 x2)] M r M9 := by
  refine Ct.of hij KstR (by decide +kernel) (Nat.le_of_ble_eq_true rfl) (fun X G0 => ?_)
  have G := G0.1
  show VJ LR w X 4 1 r M9 M [(0, .ref (wa w 0)), (1, .int (i32 x1)), (2, .int (i32 x2))] [] 0
  unfold f_m_charter at hF
  refine vj_aload_n G (p9 := 0) d_m_charter_0 rfl rfl ?_
  refine vj_iload_n G (p9 := 1) d_m_charter_1 rfl rfl ?_
  obtain ⟨r1, M1, e1, hF⟩ := bnd_some hF
  refine vj_callV3 G (ct_m_isFirm (gx_ij G) n x1 hx1 e1) lkR_0 clR_0 rfl q_1555 cq_m_isFirm rfl (by decide) (by decide) (Nat.le_of_ble_eq_true rfl) d_m_charter_2 rfl (fun hr1 => ?_)
  refine vj_if_ne G (tgt := 10) d_m_charter_5 (by decide) (ir_b hr1) (fun c2 => ?_) (fun c2 => ?_)
  · rw [if_pos c2] at hF
    refine vj_aload_n G (p9 := 0) d_m_charter_10 rfl rfl ?_
    refine vj_iload_n G (p9 := 2) d_m_charter_11 rfl rfl ?_
    obtain ⟨r3, M3, e3, hF⟩ := bnd_some hF
    refine vj_callV3 G (ct_m_isDay (gx_ij G) n x2 hx2 e3) lkR_0 clR_0 rfl q_1587 cq_m_isDay rfl (by decide) (by decide) (Nat.le_of_ble_eq_true rfl) d_m_charter_12 rfl (fun hr3 => ?_)
    refine vj_if_ne G (tgt := 21) d_m_charter_15 (by decide) (ir_b hr3) (fun c4 => ?_) (fun c4 => ?_)
    · rw [if_pos c4] at hF
      refine vj_aload_n G (p9 := 0) d_m_charter_21 rfl rfl ?_
      refine gfR_m_65 G d_m_charter_22 ?_
      refine vj_mr (fun hM5 => ?_)
      refine vj_bipush G (v := 20) d_m_charter_25 rfl ?_
      refine vj_icmp_ne G (tgt := 33) d_m_charter_27 (by decide) (mr_o hM5 lkR_0 flR_0_18) ic_20 (fun c6 => ?_) (fun c6 => ?_)
      · rw [if_pos c6] at hF
        refine vj_aload_n G (p9 := 0) d_m_charter_33 rfl rfl ?_
        refine gfR_m_80 G d_m_charter_34 ?_
        refine vj_bipush G (v := 20) d_m_charter_37 rfl ?_
        refine vj_aload_n G (p9 := 0) d_m_charter_39 rfl rfl ?_
        refine gfR_m_68 G d_m_charter_40 ?_
        refine vj_mr (fun hM7 => ?_)
        refine vj_iast G (x := 20) lkR_15 (by decide) (by decide) (by decide) ⟨by decide, by decide⟩ (mr_o hM7 lkR_0 flR_0_19) d_m_charter_43 ?_
        refine vj_aload_n G (p9 := 0) d_m_charter_44 rfl rfl ?_
        refine vj_iconst G (v := 0) d_m_charter_45 rfl ?_
        refine pfR_m_68 G ic_0 d_m_charter_46 ?_
        refine vj_aload_n G (p9 := 0) d_m_charter_49 rfl rfl ?_
        refine vj_bipush G (v := 20) d_m_charter_50 rfl ?_
        obtain ⟨r8, M8, e8, hF⟩ := bnd_some hF
        refine vj_callV3 G (ct_m_goes (gx_ij G) n 20 ic_20 e8) lkR_0 clR_0 rfl q_1599 cq_m_goes rfl (by decide) (by decide) (Nat.le_of_ble_eq_true rfl) d_m_charter_52 rfl (fun hr8 => ?_)
        refine vj_if_ne G (tgt := 66) d_m_charter_55 (by decide) (ir_b hr8) (fun c9 => ?_) (fun c9 => ?_)
        · rw [if_pos c9] at hF
          refine vj_aload_n G (p9 := 0) d_m_charter_66 rfl rfl ?_
          refine gfR_m_80 G d_m_charter_67 ?_
          refine vj_aload_n G (p9 := 0) d_m_charter_70 rfl rfl ?_
          refine gfR_m_65 G d_m_charter_71 ?_
          refine vj_mr (fun hM10 => ?_)
          refine vj_aload_n G (p9 := 0) d_m_charter_74 rfl rfl ?_
          refine gfR_m_80 G d_m_charter_75 ?_
          refine vj_bipush G (v := 20) d_m_charter_78 rfl ?_
          refine vj_iald G (x := 20) lkR_15 (by decide) ⟨by decide, by decide⟩ d_m_charter_80 ?_
          obtain ⟨c11, hF⟩ := ck_some hF
          refine vj_iast G (x := (M8 0 18)) lkR_15 (by decide) (by decide) (by decide) c11 (mr_a hM10 lkR_15) d_m_charter_81 ?_
          refine vj_iconst G (v := 0) d_m_charter_82 rfl ?_
          refine vj_istore_n G (lv2 := [(3, .int (i32 0)), (0, .ref (wa w 0)), (1, .int (i32 x1)), (2, .int (i32 x2))]) d_m_charter_83 rfl (by decide) rfl ?_
          refine vj_sub [1, 2, 3, 0] rfl ?_
          exact wl_m_charter_84 G0 n  n x1 x2 0 hx1 hx2 ic_0 _ hF
        · rw [if_neg c9] at hF
          refine vj_bipush G (v := (-10)) d_m_charter_58 rfl ?_
          refine vj_aload_n G (p9 := 0) d_m_charter_60 rfl rfl ?_
          refine gfR_m_105 G d_m_charter_61 ?_
          refine vj_mr (fun hM12 => ?_)
          refine vj_isub G d_m_charter_64 ?_
          cases hF
          exact vj_iret G0 (ir_w _) d_m_charter_65
      · rw [if_neg c6] at hF
        refine vj_bipush G (v := (-4)) d_m_charter_30 rfl ?_
        cases hF
        exact vj_iret G0 ic_m4 d_m_charter_32
    · rw [if_neg c4] at hF
      refine vj_bipush G (v := (-2)) d_m_charter_18 rfl ?_
      cases hF
      exact vj_iret G0 ic_m2 d_m_charter_20
  · rw [if_neg c2] at hF
    refine vj_iconst G (v := (-1)) d_m_charter_8 rfl ?_
    cases hF
    exact vj_iret G0 ic_m1 d_m_charter_9
set_option maxHeartbeats 4000000 in
set_option maxRecDepth 100000 in
theorem wk_m_ruled_106 {w : Wd} {X : Cx} {r : Int} {M9 : Mm} (G0 : Gx LR w X "WhoRulesModel" b_m_ruled 6 7 152 (some .int)) (n : Nat) (M : Mm) (hF : f_m_ruled_106 n  M = some (r, M9)) : VJ LR w X 6 1 r M9 M [] [] 106 := by
  have G := G0.1
  unfold f_m_ruled_106 at hF
  refine vj_iconst G (v := (-1)) d_m_ruled_106 rfl ?_
  cases hF
  exact vj_iret G0 ic_m1 d_m_ruled_107
set_option maxHeartbeats 4000000 in
set_option maxRecDepth 100000 in
theorem wk_m_ruled_81 {w : Wd} {X : Cx} {r : Int} {M9 : Mm} (G0 : Gx LR w X "WhoRulesModel" b_m_ruled 6 7 152 (some .int)) (n : Nat) (k6 : Int → Int → Int → Int → Int → Mm → Rr) (hk6 : ∀ (x1 x2 x3 x4 x5 : Int) (hx1 : inR x1) (hx2 : inR x2) (hx3 : inR x3) (hx4 : inR x4) (hx5 : inR x5) (M : Mm), k6 x1 x2 x3 x4 x5 M = some (r, M9) → VJ LR w X 6 1 r M9 M [(0, .ref (wa w 0)), (1, .int (i32 x1)), (2, .int (i32 x2)), (3, .int (i32 x3)), (4, .int (i32 x4)), (5, .int (i32 x5))] [] 6) (x1 x2 x3 x4 x5 : Int) (hx1 : inR x1) (hx2 : inR x2) (hx3 : inR x3) (hx4 : inR x4) (hx5 : inR x5) (M : Mm) (hF : f_m_ruled_81 n k6 x1 x2 x3 x4 x5 M = some (r, M9)) : VJ LR w X 6 1 r M9 M [(0, .ref (wa w 0)), (1, .int (i32 x1)), (2, .int (i32 x2)), (3, .int (i32 x3)), (4, .int (i32 x4)), (5, .int (i32 x5))] [] 81 := by
  have G := G0.1
  unfold f_m_ruled_81 at hF
  refine vj_iinc G (p9 := 5) (n := 1) (lv2 := [(5, .int (i32 (w32 (x5 + 1)))), (0, .ref (wa w 0)), (1, .int (i32 x1)), (2, .int (i32 x2)), (3, .int (i32 x3)), (4, .int (i32 x4))]) d_m_ruled_81 rfl (by decide) rfl ?_
  refine vj_goto G (tgt := 6) d_m_ruled_84 (by decide) ?_
  refine vj_sub [1, 2, 3, 4, 5, 0] rfl ?_
  exact hk6 x1 x2 x3 x4 (w32 (x5 + 1)) hx1 hx2 hx3 hx4 (ir_w _) _ hF
set_option maxHeartbeats 4000000 in
set_option maxRecDepth 100000 in
theorem wk_m_ruled_59 {w : Wd} {X : Cx} {r : Int} {M9 : Mm} (G0 : Gx LR w X "WhoRulesModel" b_m_ruled 6 7 152 (some .int)) (n : Nat) (k6 : Int → Int → Int → Int → Int → Mm → Rr) (hk6 : ∀ (x1 x2 x3 x4 x5 : Int) (hx1 : inR x1) (hx2 : inR x2) (hx3 : inR x3) (hx4 : inR x4) (hx5 : inR x5) (M : Mm), k6 x1 x2 x3 x4 x5 M = some (r, M9) → VJ LR w X 6 1 r M9 M [(0, .ref (wa w 0)), (1, .int (i32 x1)), (2, .int (i32 x2)), (3, .int (i32 x3)), (4, .int (i32 x4)), (5, .int (i32 x5))] [] 6) (x1 x2 x3 x4 x5 : Int) (hx1 : inR x1) (hx2 : inR x2) (hx3 : inR x3) (hx4 : inR x4) (hx5 : inR x5) (M : Mm) (hF : f_m_ruled_59 n k6 x1 x2 x3 x4 x5 M = some (r, M9)) : VJ LR w X 6 1 r M9 M [(0, .ref (wa w 0)), (1, .int (i32 x1)), (2, .int (i32 x2)), (3, .int (i32 x3)), (4, .int (i32 x4)), (5, .int (i32 x5))] [] 59 := by
  have G := G0.1
  unfold f_m_ruled_59 at hF
  refine vj_aload_n G (p9 := 0) d_m_ruled_59 rfl rfl ?_
  refine vj_iload G (p9 := 5) d_m_ruled_60 rfl ?_
  obtain ⟨r1, M1, e1, hF⟩ := bnd_some hF
  refine vj_callV3 G (ct_m_goes (gx_ij G) n x5 hx5 e1) lkR_0 clR_0 rfl q_1599 cq_m_goes rfl (by decide) (by decide) (Nat.le_of_ble_eq_true rfl) d_m_ruled_62 rfl (fun hr1 => ?_)
  refine vj_if_eq G (tgt := 81) d_m_ruled_65 (by decide) (ir_b hr1) (fun c2 => ?_) (fun c2 => ?_)
  · rw [if_pos c2] at hF
    exact wk_m_ruled_81 G0 n k6 hk6 x1 x2 x3 x4 x5 hx1 hx2 hx3 hx4 hx5 _ hF
  · rw [if_neg c2] at hF
    refine vj_aload_n G (p9 := 0) d_m_ruled_68 rfl rfl ?_
    refine gfR_m_86 G d_m_ruled_69 ?_
    refine vj_iload_n G (p9 := 2) d_m_ruled_72 rfl rfl ?_
    obtain ⟨c3, hF⟩ := ck_some hF
    refine vj_iald G (x := x2) lkR_17 (by decide) c3 d_m_ruled_73 ?_
    refine vj_mr (fun hM4 => ?_)
    refine vj_if_lt G (tgt := 81) d_m_ruled_74 (by decide) (mr_a hM4 lkR_17) (fun c5 => ?_) (fun c5 => ?_)
    · rw [if_pos c5] at hF
      exact wk_m_ruled_81 G0 n k6 hk6 x1 x2 x3 x4 x5 hx1 hx2 hx3 hx4 hx5 _ hF
    · rw [if_neg c5] at hF
      refine vj_iload G (p9 := 5) d_m_ruled_77 rfl ?_
      refine vj_istore G (lv2 := [(4, .int (i32 x5)), (0, .ref (wa w 0)), (1, .int (i32 x1)), (2, .int (i32 x2)), (3, .int (i32 x3)), (5, .int (i32 x5))]) d_m_ruled_79 (by decide) rfl ?_
      refine vj_sub [1, 2, 3, 4, 0, 5] rfl ?_
      exact wk_m_ruled_81 G0 n k6 hk6 x1 x2 x3 x5 x5 hx1 hx2 hx3 hx5 hx5 _ hF
set_option maxHeartbeats 4000000 in
set_option maxRecDepth 100000 in
theorem wk_m_ruled_6 {w : Wd} {X : Cx} {r : Int} {M9 : Mm} (G0 : Gx LR w X "WhoRulesModel" b_m_ruled 6 7 152 (some .int)) (n : Nat) (k6 : Int → Int → Int → Int → Int → Mm → Rr) (hk6 : ∀ (x1 x2 x3 x4 x5 : Int) (hx1 : inR x1) (hx2 : inR x2) (hx3 : inR x3) (hx4 : inR x4) (hx5 : inR x5) (M : Mm), k6 x1 x2 x3 x4 x5 M = some (r, M9) → VJ LR w X 6 1 r M9 M [(0, .ref (wa w 0)), (1, .int (i32 x1)), (2, .int (i32 x2)), (3, .int (i32 x3)), (4, .int (i32 x4)), (5, .int (i32 x5))] [] 6) (x1 x2 x3 x4 x5 : Int) (hx1 : inR x1) (hx2 : inR x2) (hx3 : inR x3) (hx4 : inR x4) (hx5 : inR x5) (M : Mm) (hF : f_m_ruled_6 n k6 x1 x2 x3 x4 x5 M = some (r, M9)) : VJ LR w X 6 1 r M9 M [(0, .ref (wa w 0)), (1, .int (i32 x1)), (2, .int (i32 x2)), (3, .int (i32 x3)), (4, .int (i32 x4)), (5, .int (i32 x5))] [] 6 := by
  have G := G0.1
  unfold f_m_ruled_6 at hF
  refine vj_iload G (p9 := 5) d_m_ruled_6 rfl ?_
  refine vj_aload_n G (p9 := 0) d_m_ruled_8 rfl rfl ?_
  refine gfR_m_65 G d_m_ruled_9 ?_
  refine vj_mr (fun hM1 => ?_)
  refine vj_icmp_ge G (tgt := 87) d_m_ruled_12 (by decide) hx5 (mr_o hM1 lkR_0 flR_0_18) (fun c2 => ?_) (fun c2 => ?_)
  · rw [if_pos c2] at hF
    refine vj_iload G (p9 := 4) d_m_ruled_87 rfl ?_
    refine vj_if_lt G (tgt := 106) d_m_ruled_89 (by decide) hx4 (fun c3 => ?_) (fun c3 => ?_)
    · rw [if_pos c3] at hF
      refine vj_sub [] rfl ?_
      exact wk_m_ruled_106 G0 n    _ hF
    · rw [if_neg c3] at hF
      refine vj_aload_n G (p9 := 0) d_m_ruled_92 rfl rfl ?_
      refine vj_iload G (p9 := 4) d_m_ruled_93 rfl ?_
      obtain ⟨r4, M4, e4, hF⟩ := bnd_some hF
      refine vj_callV3 G (ct_m_goes (gx_ij G) n x4 hx4 e4) lkR_0 clR_0 rfl q_1599 cq_m_goes rfl (by decide) (by decide) (Nat.le_of_ble_eq_true rfl) d_m_ruled_95 rfl (fun hr4 => ?_)
      refine vj_if_eq G (tgt := 106) d_m_ruled_98 (by decide) (ir_b hr4) (fun c5 => ?_) (fun c5 => ?_)
      · rw [if_pos c5] at hF
        refine vj_sub [] rfl ?_
        exact wk_m_ruled_106 G0 n    _ hF
      · rw [if_neg c5] at hF
        refine vj_iload G (p9 := 4) d_m_ruled_101 rfl ?_
        refine vj_goto G (tgt := 107) d_m_ruled_103 (by decide) ?_
        cases hF
        exact vj_iret G0 hx4 d_m_ruled_107
  · rw [if_neg c2] at hF
    refine vj_aload_n G (p9 := 0) d_m_ruled_15 rfl rfl ?_
    refine gfR_m_71 G d_m_ruled_16 ?_
    refine vj_iload G (p9 := 5) d_m_ruled_19 rfl ?_
    obtain ⟨c6, hF⟩ := ck_some hF
    refine vj_iald G (x := x5) lkR_12 (by decide) c6 d_m_ruled_21 ?_
    refine vj_mr (fun hM7 => ?_)
    refine vj_iload_n G (p9 := 1) d_m_ruled_22 rfl rfl ?_
    refine vj_icmp_ne G (tgt := 81) d_m_ruled_23 (by decide) (mr_a hM7 lkR_12) hx1 (fun c8 => ?_) (fun c8 => ?_)
    · rw [if_pos c8] at hF
      exact wk_m_ruled_81 G0 n k6 hk6 x1 x2 x3 x4 x5 hx1 hx2 hx3 hx4 hx5 _ hF
    · rw [if_neg c8] at hF
      refine vj_aload_n G (p9 := 0) d_m_ruled_26 rfl rfl ?_
      refine gfR_m_74 G d_m_ruled_27 ?_
      refine vj_iload G (p9 := 5) d_m_ruled_30 rfl ?_
      obtain ⟨c9, hF⟩ := ck_some hF
      refine vj_iald G (x := x5) lkR_13 (by decide) c9 d_m_ruled_32 ?_
      refine vj_mr (fun hM10 => ?_)
      refine vj_iload_n G (p9 := 3) d_m_ruled_33 rfl rfl ?_
      refine vj_icmp_gt G (tgt := 81) d_m_ruled_34 (by decide) (mr_a hM10 lkR_13) hx3 (fun c11 => ?_) (fun c11 => ?_)
      · rw [if_pos c11] at hF
        exact wk_m_ruled_81 G0 n k6 hk6 x1 x2 x3 x4 x5 hx1 hx2 hx3 hx4 hx5 _ hF
      · rw [if_neg c11] at hF
        refine vj_iload G (p9 := 4) d_m_ruled_37 rfl ?_
        refine vj_if_lt G (tgt := 59) d_m_ruled_39 (by decide) hx4 (fun c12 => ?_) (fun c12 => ?_)
        · rw [if_pos c12] at hF
          exact wk_m_ruled_59 G0 n k6 hk6 x1 x2 x3 x4 x5 hx1 hx2 hx3 hx4 hx5 _ hF
        · rw [if_neg c12] at hF
          refine vj_aload_n G (p9 := 0) d_m_ruled_42 rfl rfl ?_
          refine gfR_m_74 G d_m_ruled_43 ?_
          refine vj_iload G (p9 := 5) d_m_ruled_46 rfl ?_
          obtain ⟨c13, hF⟩ := ck_some hF
          refine vj_iald G (x := x5) lkR_13 (by decide) c13 d_m_ruled_48 ?_
          refine vj_mr (fun hM14 => ?_)
          refine vj_aload_n G (p9 := 0) d_m_ruled_49 rfl rfl ?_
          refine gfR_m_74 G d_m_ruled_50 ?_
          refine vj_iload G (p9 := 4) d_m_ruled_53 rfl ?_
          obtain ⟨c15, hF⟩ := ck_some hF
          refine vj_iald G (x := x4) lkR_13 (by decide) c15 d_m_ruled_55 ?_
          refine vj_icmp_lt G (tgt := 81) d_m_ruled_56 (by decide) (mr_a hM14 lkR_13) (mr_a hM14 lkR_13) (fun c16 => ?_) (fun c16 => ?_)
          · rw [if_pos c16] at hF
            exact wk_m_ruled_81 G0 n k6 hk6 x1 x2 x3 x4 x5 hx1 hx2 hx3 hx4 hx5 _ hF
          · rw [if_neg c16] at hF
            exact wk_m_ruled_59 G0 n k6 hk6 x1 x2 x3 x4 x5 hx1 hx2 hx3 hx4 hx5 _ hF
set_option maxHeartbeats 4000000 in
set_option maxRecDepth 100000 in
theorem wl_m_ruled_6 {w : Wd} {X : Cx} {r : Int} {M9 : Mm} (G0 : Gx LR w X "WhoRulesModel" b_m_ruled 6 7 152 (some .int)) (n : Nat) : ∀ (f : Nat) (x1 x2 x3 x4 x5 : Int) (hx1 : inR x1) (hx2 : inR x2) (hx3 : inR x3) (hx4 : inR x4) (hx5 : inR x5) (M : Mm), lp_m_ruled_6 n f x1 x2 x3 x4 x5 M = some (r, M9) → VJ LR w X 6 1 r M9 M [(0, .ref (wa w 0)), (1, .int (i32 x1)), (2, .int (i32 x2)), (3, .int (i32 x3)), (4, .int (i32 x4)), (5, .int (i32 x5))] [] 6 := by
  intro f
  induction f with
  | zero => intro x1 x2 x3 x4 x5 hx1 hx2 hx3 hx4 hx5 M hF; cases hF
  | succ f ih => intro x1 x2 x3 x4 x5 hx1 hx2 hx3 hx4 hx5 M hF; exact wk_m_ruled_6 G0 n (lp_m_ruled_6 n f) ih x1 x2 x3 x4 x5 hx1 hx2 hx3 hx4 hx5 M hF
set_option maxHeartbeats 4000000 in
set_option maxRecDepth 100000 in
theorem ct_m_ruled {w : Wd} (hij : ij LR w) (n : Nat) (x1 x2 x3 : Int) (hx1 : inR x1) (hx2 : inR x2) (hx3 : inR x3) {M : Mm} {r : Int} {M9 : Mm} (hF : f_m_ruled n x1 x2 x3 M = some (r, M9)) : Ct LR w y_m_ruled b_m_ruled 6 (some .int) 7 152 1 [.ref (wa w 0), .int (i32 x1), .int (i32 x2), .int (i32 x3)] M r M9 := by
  refine Ct.of hij KstR (by decide +kernel) (Nat.le_of_ble_eq_true rfl) (fun X G0 => ?_)
  have G := G0.1
  show VJ LR w X 6 1 r M9 M [(0, .ref (wa w 0)), (1, .int (i32 x1)), (2, .int (i32 x2)), (3, .int (i32 x3))] [] 0
  unfold f_m_ruled at hF
  refine vj_iconst G (v := (-1)) d_m_ruled_0 rfl ?_
  refine vj_istore G (lv2 := [(4, .int (i32 (-1))), (0, .ref (wa w 0)), (1, .int (i32 x1)), (2, .int (i32 x2)), (3, .int (i32 x3))]) d_m_ruled_1 (by decide) rfl ?_
  refine vj_iconst G (v := 0) d_m_ruled_3 rfl ?_
  refine vj_istore G (lv2 := [(5, .int (i32 0)), (4, .int (i32 (-1))), (0, .ref (wa w 0)), (1, .int (i32 x1)), (2, .int (i32 x2)), (3, .int (i32 x3))]) d_m_ruled_4 (by decide) rfl ?_
  refine vj_sub [2, 3, 4, 5, 1, 0] rfl ?_
  exact wl_m_ruled_6 G0 n  n x1 x2 x3 (-1) 0 hx1 hx2 hx3 ic_m1 ic_0 _ hF
set_option maxHeartbeats 4000000 in
set_option maxRecDepth 100000 in
theorem ct_m_putFacts {w : Wd} (hij : ij LR w) (n : Nat) (x1 x2 x3 : Int) (hx1 : inR x1) (hx2 : inR x2) (hx3 : inR x3) {M : Mm} {r : Int} {M9 : Mm} (hF : f_m_putFacts n x1 x2 x3 M = some (r, M9)) : Ct LR w y_m_putFacts b_m_putFacts 4 none 0 0 0 [.ref (wa w 0), .int (i32 x1), .int (i32 x2), .int (i32 x3)] M r M9 := by
  refine Ct.of hij KstR (by decide +kernel) (Nat.le_of_ble_eq_true rfl) (fun X G0 => ?_)
  have G := G0.1
  show VJ LR w X 4 0 r M9 M [(0, .ref (wa w 0)), (1, .int (i32 x1)), (2, .int (i32 x2)), (3, .int (i32 x3))] [] 0
  unfold f_m_putFacts at hF
  refine vj_aload_n G (p9 := 0) d_m_putFacts_0 rfl rfl ?_
  refine gfR_m_83 G d_m_putFacts_1 ?_
  refine vj_iconst G (v := 0) d_m_putFacts_4 rfl ?_
  refine vj_aload_n G (p9 := 0) d_m_putFacts_5 rfl rfl ?_
  refine gfR_m_25 G d_m_putFacts_6 ?_
  refine vj_iload_n G (p9 := 2) d_m_putFacts_9 rfl rfl ?_
  obtain ⟨c1, hF⟩ := ck_some hF
  refine vj_iald G (x := x2) lkR_1 (by decide) c1 d_m_putFacts_10 ?_
  refine vj_mr (fun hM2 => ?_)
  refine vj_iast G (x := 0) lkR_16 (by decide) (by decide) (by decide) ⟨by decide, by decide⟩ (mr_a hM2 lkR_1) d_m_putFacts_11 ?_
  refine vj_aload_n G (p9 := 0) d_m_putFacts_12 rfl rfl ?_
  refine gfR_m_83 G d_m_putFacts_13 ?_
  refine vj_iconst G (v := 1) d_m_putFacts_16 rfl ?_
  refine vj_iload_n G (p9 := 2) d_m_putFacts_17 rfl rfl ?_
  refine vj_iast G (x := 1) lkR_16 (by decide) (by decide) (by decide) ⟨by decide, by decide⟩ hx2 d_m_putFacts_18 ?_
  refine vj_aload_n G (p9 := 0) d_m_putFacts_19 rfl rfl ?_
  refine gfR_m_83 G d_m_putFacts_20 ?_
  refine vj_iconst G (v := 2) d_m_putFacts_23 rfl ?_
  refine vj_iload_n G (p9 := 3) d_m_putFacts_24 rfl rfl ?_
  refine vj_iast G (x := 2) lkR_16 (by decide) (by decide) (by decide) ⟨by decide, by decide⟩ hx3 d_m_putFacts_25 ?_
  refine vj_aload_n G (p9 := 0) d_m_putFacts_26 rfl rfl ?_
  refine gfR_m_83 G d_m_putFacts_27 ?_
  refine vj_iconst G (v := 3) d_m_putFacts_30 rfl ?_
  refine vj_aload_n G (p9 := 0) d_m_putFacts_31 rfl rfl ?_
  refine gfR_m_38 G d_m_putFacts_32 ?_
  refine vj_iload_n G (p9 := 1) d_m_putFacts_35 rfl rfl ?_
  obtain ⟨c3, hF⟩ := ck_some hF
  refine vj_iald G (x := x1) lkR_5 (by decide) c3 d_m_putFacts_36 ?_
  refine vj_mr (fun hM4 => ?_)
  refine vj_iast G (x := 3) lkR_16 (by decide) (by decide) (by decide) ⟨by decide, by decide⟩ (mr_a hM4 lkR_5) d_m_putFacts_37 ?_
  refine vj_aload_n G (p9 := 0) d_m_putFacts_38 rfl rfl ?_
  refine gfR_m_83 G d_m_putFacts_39 ?_
  refine vj_iconst G (v := 4) d_m_putFacts_42 rfl ?_
  refine vj_aload_n G (p9 := 0) d_m_putFacts_43 rfl rfl ?_
  refine gfR_m_41 G d_m_putFacts_44 ?_
  refine vj_iload_n G (p9 := 1) d_m_putFacts_47 rfl rfl ?_
  obtain ⟨c5, hF⟩ := ck_some hF
  refine vj_iald G (x := x1) lkR_6 (by decide) c5 d_m_putFacts_48 ?_
  refine vj_mr (fun hM6 => ?_)
  refine vj_iast G (x := 4) lkR_16 (by decide) (by decide) (by decide) ⟨by decide, by decide⟩ (mr_a hM6 lkR_6) d_m_putFacts_49 ?_
  cases hF
  exact vj_vret G0 d_m_putFacts_50
set_option maxHeartbeats 4000000 in
set_option maxRecDepth 100000 in
theorem wk_m_force_120 {w : Wd} {X : Cx} {r : Int} {M9 : Mm} (G0 : Gx LR w X "WhoRulesModel" b_m_force 6 8 177 (some .int)) (n : Nat) (x2 s0 : Int) (hx2 : inR x2) (hs0 : inB s0) (M : Mm) (hF : f_m_force_120 n x2 s0 M = some (r, M9)) : VJ LR w X 6 1 r M9 M [(0, .ref (wa w 0)), (2, .int (i32 x2))] [.int (i32 s0)] 120 := by
  have G := G0.1
  unfold f_m_force_120 at hF
  refine vj_istore G (lv2 := [(5, .int (i32 s0)), (0, .ref (wa w 0)), (2, .int (i32 x2))]) d_m_force_120 (by decide) rfl ?_
  refine vj_iload_n G (p9 := 2) d_m_force_122 rfl rfl ?_
  by_cases c1 : x2 = 0
  · rw [if_pos c1] at hF
    refine vj_swIn G (y := 0) (tgt := 148) d_m_force_123 hx2 c1 (by decide) (by decide) rfl (by decide) ?_
    refine vj_iload G (p9 := 0) d_m_force_148 rfl ?_
    refine vj_if_eq G (tgt := 173) d_m_force_150 (by decide) (ir_b hs0) (fun c2 => ?_) (fun c2 => ?_)
    · rw [if_pos c2] at hF
      refine vj_sipush G (v := 1002) d_m_force_173 rfl ?_
      cases hF
      exact vj_iret G0 ic_1002 d_m_force_176
    · rw [if_neg c2] at hF
      refine vj_sipush G (v := 1000) d_m_force_153 rfl ?_
      refine vj_aload_n G (p9 := 1) d_m_force_156 rfl rfl ?_
      refine gfR_m_89 G d_m_force_157 ?_
      refine vj_iconst G (v := 0) d_m_force_160 rfl ?_
      refine vj_iald G (x := 0) lkR_18 (by decide) ⟨by decide, by decide⟩ d_m_force_161 ?_
      refine vj_mr (fun hM3 => ?_)
      refine vj_imul G d_m_force_162 ?_
      refine vj_aload_n G (p9 := 1) d_m_force_163 rfl rfl ?_
      refine gfR_m_92 G d_m_force_164 ?_
      refine vj_iconst G (v := 0) d_m_force_167 rfl ?_
      refine vj_iald G (x := 0) lkR_19 (by decide) ⟨by decide, by decide⟩ d_m_force_168 ?_
      refine vj_iadd G d_m_force_169 ?_
      refine vj_goto G (tgt := 176) d_m_force_170 (by decide) ?_
      cases hF
      exact vj_iret G0 (ir_w _) d_m_force_176
  · rw [if_neg c1] at hF
    by_cases c4 : x2 = 1
    · rw [if_pos c4] at hF
      refine vj_swIn G (y := 1) (tgt := 177) d_m_force_123 hx2 c4 (by decide) (by decide) rfl (by decide) ?_
      refine vj_iload G (p9 := 0) d_m_force_177 rfl ?_
      refine vj_if_eq G (tgt := 191) d_m_force_179 (by decide) (ir_b hs0) (fun c5 => ?_) (fun c5 => ?_)
      · rw [if_pos c5] at hF
        refine vj_sipush G (v := 999) d_m_force_191 rfl ?_
        cases hF
        exact vj_iret G0 ic_999 d_m_force_194
      · rw [if_neg c5] at hF
        refine vj_aload_n G (p9 := 1) d_m_force_182 rfl rfl ?_
        refine gfR_m_89 G d_m_force_183 ?_
        refine vj_iconst G (v := 1) d_m_force_186 rfl ?_
        refine vj_iald G (x := 1) lkR_18 (by decide) ⟨by decide, by decide⟩ d_m_force_187 ?_
        refine vj_mr (fun hM6 => ?_)
        refine vj_goto G (tgt := 194) d_m_force_188 (by decide) ?_
        cases hF
        exact vj_iret G0 (mr_a hM6 lkR_18) d_m_force_194
    · rw [if_neg c4] at hF
      by_cases c7 : x2 = 2
      · rw [if_pos c7] at hF
        refine vj_swIn G (y := 2) (tgt := 195) d_m_force_123 hx2 c7 (by decide) (by decide) rfl (by decide) ?_
        refine vj_iload G (p9 := 0) d_m_force_195 rfl ?_
        refine vj_if_eq G (tgt := 220) d_m_force_197 (by decide) (ir_b hs0) (fun c8 => ?_) (fun c8 => ?_)
        · rw [if_pos c8] at hF
          refine vj_ldcw G (v := 999001) d_m_force_220 q_1663 rfl ?_
          cases hF
          exact vj_iret G0 ic_999001 d_m_force_223
        · rw [if_neg c8] at hF
          refine vj_sipush G (v := 1000) d_m_force_200 rfl ?_
          refine vj_aload_n G (p9 := 1) d_m_force_203 rfl rfl ?_
          refine gfR_m_89 G d_m_force_204 ?_
          refine vj_iconst G (v := 2) d_m_force_207 rfl ?_
          refine vj_iald G (x := 2) lkR_18 (by decide) ⟨by decide, by decide⟩ d_m_force_208 ?_
          refine vj_mr (fun hM9 => ?_)
          refine vj_imul G d_m_force_209 ?_
          refine vj_aload_n G (p9 := 1) d_m_force_210 rfl rfl ?_
          refine gfR_m_92 G d_m_force_211 ?_
          refine vj_iconst G (v := 2) d_m_force_214 rfl ?_
          refine vj_iald G (x := 2) lkR_19 (by decide) ⟨by decide, by decide⟩ d_m_force_215 ?_
          refine vj_iadd G d_m_force_216 ?_
          refine vj_goto G (tgt := 223) d_m_force_217 (by decide) ?_
          cases hF
          exact vj_iret G0 (ir_w _) d_m_force_223
      · rw [if_neg c7] at hF
        refine vj_swOut G (tgt := 224) d_m_force_123 hx2 (by omega) (by decide) ?_
        refine vj_iload G (p9 := 0) d_m_force_224 rfl ?_
        refine vj_if_eq G (tgt := 238) d_m_force_226 (by decide) (ir_b hs0) (fun c10 => ?_) (fun c10 => ?_)
        · rw [if_pos c10] at hF
          refine vj_bipush G (v := (-5)) d_m_force_238 rfl ?_
          cases hF
          exact vj_iret G0 ic_m5 d_m_force_240
        · rw [if_neg c10] at hF
          refine vj_aload_n G (p9 := 1) d_m_force_229 rfl rfl ?_
          refine gfR_m_89 G d_m_force_230 ?_
          refine vj_iconst G (v := 3) d_m_force_233 rfl ?_
          refine vj_iald G (x := 3) lkR_18 (by decide) ⟨by decide, by decide⟩ d_m_force_234 ?_
          refine vj_mr (fun hM11 => ?_)
          refine vj_goto G (tgt := 240) d_m_force_235 (by decide) ?_
          cases hF
          exact vj_iret G0 (mr_a hM11 lkR_18) d_m_force_240
set_option maxHeartbeats 4000000 in
set_option maxRecDepth 100000 in
theorem wk_m_force_103 {w : Wd} {X : Cx} {r : Int} {M9 : Mm} (G0 : Gx LR w X "WhoRulesModel" b_m_force 6 8 177 (some .int)) (n : Nat) (M : Mm) (hF : f_m_force_103 n  M = some (r, M9)) : VJ LR w X 6 1 r M9 M [] [] 103 := by
  have G := G0.1
  unfold f_m_force_103 at hF
  refine vj_iconst G (v := 0) d_m_force_103 rfl ?_
  cases hF
  exact vj_iret G0 ic_0 d_m_force_104
set_option maxHeartbeats 4000000 in
set_option maxRecDepth 100000 in
theorem wk_m_force_34 {w : Wd} {X : Cx} {r : Int} {M9 : Mm} (G0 : Gx LR w X "WhoRulesModel" b_m_force 6 8 177 (some .int)) (n : Nat) (x1 x2 x3 x4 : Int) (hx1 : inR x1) (hx2 : inR x2) (hx3 : inR x3) (hx4 : inR x4) (M : Mm) (hF : f_m_force_34 n x1 x2 x3 x4 M = some (r, M9)) : VJ LR w X 6 1 r M9 M [(0, .ref (wa w 0)), (1, .int (i32 x1)), (2, .int (i32 x2)), (3, .int (i32 x3)), (4, .int (i32 x4))] [] 34 := by
  have G := G0.1
  unfold f_m_force_34 at hF
  refine vj_aload_n G (p9 := 0) d_m_force_34 rfl rfl ?_
  refine vj_iload_n G (p9 := 3) d_m_force_35 rfl rfl ?_
  obtain ⟨r1, M1, e1, hF⟩ := bnd_some hF
  refine vj_callV3 G (ct_m_isDay (gx_ij G) n x3 hx3 e1) lkR_0 clR_0 rfl q_1587 cq_m_isDay rfl (by decide) (by decide) (Nat.le_of_ble_eq_true rfl) d_m_force_36 rfl (fun hr1 => ?_)
  refine vj_if_ne G (tgt := 45) d_m_force_39 (by decide) (ir_b hr1) (fun c2 => ?_) (fun c2 => ?_)
  · rw [if_pos c2] at hF
    refine vj_iload_n G (p9 := 2) d_m_force_45 rfl rfl ?_
    refine vj_iconst G (v := 4) d_m_force_46 rfl ?_
    refine vj_icmp_ne G (tgt := 105) d_m_force_47 (by decide) hx2 ic_4 (fun c3 => ?_) (fun c3 => ?_)
    · rw [if_pos c3] at hF
      refine vj_aload_n G (p9 := 0) d_m_force_105 rfl rfl ?_
      refine vj_iload_n G (p9 := 1) d_m_force_106 rfl rfl ?_
      refine vj_iload_n G (p9 := 2) d_m_force_107 rfl rfl ?_
      refine vj_iload_n G (p9 := 3) d_m_force_108 rfl rfl ?_
      obtain ⟨r4, M4, e4, hF⟩ := bnd_some hF
      refine vj_callV1 G (ct_m_ruled (gx_ij G) n x1 x2 x3 hx1 hx2 hx3 e4) lkR_0 clR_0 rfl q_1659 cq_m_ruled rfl (by decide) (by decide) (Nat.le_of_ble_eq_true rfl) d_m_force_109 rfl (fun hr4 => ?_)
      refine vj_if_lt G (tgt := 119) d_m_force_112 (by decide) hr4 (fun c5 => ?_) (fun c5 => ?_)
      · rw [if_pos c5] at hF
        refine vj_iconst G (v := 0) d_m_force_119 rfl ?_
        refine vj_sub [0, 2] rfl ?_
        exact wk_m_force_120 G0 n  x2 0 hx2 (Or.inl rfl) _ hF
      · rw [if_neg c5] at hF
        refine vj_iconst G (v := 1) d_m_force_115 rfl ?_
        refine vj_goto G (tgt := 120) d_m_force_116 (by decide) ?_
        refine vj_sub [0, 2] rfl ?_
        exact wk_m_force_120 G0 n  x2 1 hx2 (Or.inr rfl) _ hF
    · rw [if_neg c3] at hF
      refine vj_aload_n G (p9 := 0) d_m_force_50 rfl rfl ?_
      refine vj_iload G (p9 := 4) d_m_force_51 rfl ?_
      refine vj_iload_n G (p9 := 3) d_m_force_53 rfl rfl ?_
      obtain ⟨r6, M6, e6, hF⟩ := bnd_some hF
      refine vj_callV0 G (ct_m_findWhose (gx_ij G) n x4 x3 hx4 hx3 e6) lkR_0 clR_0 rfl q_1575 cq_m_findWhose rfl (by decide) (by decide) (Nat.le_of_ble_eq_true rfl) d_m_force_54 rfl (fun hr6 => ?_)
      refine vj_aload_n G (p9 := 0) d_m_force_57 rfl rfl ?_
      refine gfR_m_59 G d_m_force_58 ?_
      refine vj_mr (fun hM7 => ?_)
      refine vj_if_ge G (tgt := 66) d_m_force_61 (by decide) (mr_o hM7 lkR_0 flR_0_16) (fun c8 => ?_) (fun c8 => ?_)
      · rw [if_pos c8] at hF
        refine vj_aload_n G (p9 := 0) d_m_force_66 rfl rfl ?_
        refine vj_iload G (p9 := 4) d_m_force_67 rfl ?_
        refine vj_aload_n G (p9 := 0) d_m_force_69 rfl rfl ?_
        refine gfR_m_59 G d_m_force_70 ?_
        refine vj_mr (fun hM9 => ?_)
        refine vj_iload_n G (p9 := 3) d_m_force_73 rfl rfl ?_
        refine vj_aload_n G (p9 := 0) d_m_force_74 rfl rfl ?_
        refine gfR_m_62 G d_m_force_75 ?_
        refine vj_isub G d_m_force_78 ?_
        obtain ⟨r10, M10, e10, hF⟩ := bnd_some hF
        refine vj_callV0 G (ct_m_putFacts (gx_ij G) n x4 (M6 0 16) (w32 (x3 - (M6 0 17))) hx4 (mr_o hM9 lkR_0 flR_0_16) (ir_w _) e10) lkR_0 clR_0 rfl q_1655 cq_m_putFacts rfl (by decide) (by decide) (Nat.le_of_ble_eq_true rfl) d_m_force_79 rfl (fun hr10 => ?_)
        refine vj_aload_n G (p9 := 0) d_m_force_82 rfl rfl ?_
        refine vj_iload_n G (p9 := 1) d_m_force_83 rfl rfl ?_
        refine vj_iconst G (v := 4) d_m_force_84 rfl ?_
        refine vj_iload_n G (p9 := 3) d_m_force_85 rfl rfl ?_
        obtain ⟨r11, M11, e11, hF⟩ := bnd_some hF
        refine vj_callV1 G (ct_m_ruled (gx_ij G) n x1 4 x3 hx1 ic_4 hx3 e11) lkR_0 clR_0 rfl q_1659 cq_m_ruled rfl (by decide) (by decide) (Nat.le_of_ble_eq_true rfl) d_m_force_86 rfl (fun hr11 => ?_)
        refine vj_if_lt G (tgt := 103) d_m_force_89 (by decide) hr11 (fun c12 => ?_) (fun c12 => ?_)
        · rw [if_pos c12] at hF
          refine vj_sub [] rfl ?_
          exact wk_m_force_103 G0 n    _ hF
        · rw [if_neg c12] at hF
          refine vj_aload_n G (p9 := 0) d_m_force_92 rfl rfl ?_
          refine gfR_m_95 G d_m_force_93 ?_
          refine vj_mr (fun hM13 => ?_)
          refine vj_if_eq G (tgt := 103) d_m_force_96 (by decide) (ir_b (mr_ob hM13 lkR_0 flR_0_28)) (fun c14 => ?_) (fun c14 => ?_)
          · rw [if_pos c14] at hF
            refine vj_sub [] rfl ?_
            exact wk_m_force_103 G0 n    _ hF
          · rw [if_neg c14] at hF
            refine vj_iconst G (v := 1) d_m_force_99 rfl ?_
            refine vj_goto G (tgt := 104) d_m_force_100 (by decide) ?_
            cases hF
            exact vj_iret G0 ic_1 d_m_force_104
      · rw [if_neg c8] at hF
        refine vj_iconst G (v := 0) d_m_force_64 rfl ?_
        cases hF
        exact vj_iret G0 ic_0 d_m_force_65
  · rw [if_neg c2] at hF
    refine vj_bipush G (v := (-2)) d_m_force_42 rfl ?_
    cases hF
    exact vj_iret G0 ic_m2 d_m_force_44
set_option maxHeartbeats 4000000 in
set_option maxRecDepth 100000 in
theorem ct_m_force {w : Wd} (hij : ij LR w) (n : Nat) (x1 x2 x3 x4 : Int) (hx1 : inR x1) (hx2 : inR x2) (hx3 : inR x3) (hx4 : inR x4) {M : Mm} {r : Int} {M9 : Mm} (hF : f_m_force n x1 x2 x3 x4 M = some (r, M9)) : Ct LR w y_m_force b_m_force 6 (some .int) 8 177 1 [.ref (wa w 0), .int (i32 x1), .int (i32 x2), .int (i32 x3), .int (i32 x4)] M r M9 := by
  refine Ct.of hij KstR (by decide +kernel) (Nat.le_of_ble_eq_true rfl) (fun X G0 => ?_)
  have G := G0.1
  show VJ LR w X 6 1 r M9 M [(0, .ref (wa w 0)), (1, .int (i32 x1)), (2, .int (i32 x2)), (3, .int (i32 x3)), (4, .int (i32 x4))] [] 0
  unfold f_m_force at hF
  refine vj_aload_n G (p9 := 0) d_m_force_0 rfl rfl ?_
  refine vj_iload_n G (p9 := 1) d_m_force_1 rfl rfl ?_
  obtain ⟨r1, M1, e1, hF⟩ := bnd_some hF
  refine vj_callV3 G (ct_m_isFirm (gx_ij G) n x1 hx1 e1) lkR_0 clR_0 rfl q_1555 cq_m_isFirm rfl (by decide) (by decide) (Nat.le_of_ble_eq_true rfl) d_m_force_2 rfl (fun hr1 => ?_)
  refine vj_if_eq G (tgt := 32) d_m_force_5 (by decide) (ir_b hr1) (fun c2 => ?_) (fun c2 => ?_)
  · rw [if_pos c2] at hF
    refine vj_iconst G (v := (-1)) d_m_force_32 rfl ?_
    cases hF
    exact vj_iret G0 ic_m1 d_m_force_33
  · rw [if_neg c2] at hF
    refine vj_aload_n G (p9 := 0) d_m_force_8 rfl rfl ?_
    refine vj_iload_n G (p9 := 2) d_m_force_9 rfl rfl ?_
    refine vj_iconst G (v := 0) d_m_force_10 rfl ?_
    refine vj_iconst G (v := 4) d_m_force_11 rfl ?_
    obtain ⟨r3, M3, e3, hF⟩ := bnd_some hF
    refine vj_callV3 G (ct_m_in (gx_ij G) n x2 0 4 hx2 ic_0 ic_4 e3) lkR_0 clR_0 rfl q_1543 cq_m_in rfl (by decide) (by decide) (Nat.le_of_ble_eq_true rfl) d_m_force_12 rfl (fun hr3 => ?_)
    refine vj_if_eq G (tgt := 32) d_m_force_15 (by decide) (ir_b hr3) (fun c4 => ?_) (fun c4 => ?_)
    · rw [if_pos c4] at hF
      refine vj_iconst G (v := (-1)) d_m_force_32 rfl ?_
      cases hF
      exact vj_iret G0 ic_m1 d_m_force_33
    · rw [if_neg c4] at hF
      refine vj_iload_n G (p9 := 2) d_m_force_18 rfl rfl ?_
      refine vj_iconst G (v := 4) d_m_force_19 rfl ?_
      refine vj_icmp_ne G (tgt := 34) d_m_force_20 (by decide) hx2 ic_4 (fun c5 => ?_) (fun c5 => ?_)
      · rw [if_pos c5] at hF
        exact wk_m_force_34 G0 n  x1 x2 x3 x4 hx1 hx2 hx3 hx4 _ hF
      · rw [if_neg c5] at hF
        refine vj_aload_n G (p9 := 0) d_m_force_23 rfl rfl ?_
        refine vj_iload G (p9 := 4) d_m_force_24 rfl ?_
        obtain ⟨r6, M6, e6, hF⟩ := bnd_some hF
        refine vj_callV3 G (ct_m_isShare (gx_ij G) n x4 hx4 e6) lkR_0 clR_0 rfl q_1567 cq_m_isShare rfl (by decide) (by decide) (Nat.le_of_ble_eq_true rfl) d_m_force_26 rfl (fun hr6 => ?_)
        refine vj_if_ne G (tgt := 34) d_m_force_29 (by decide) (ir_b hr6) (fun c7 => ?_) (fun c7 => ?_)
        · rw [if_pos c7] at hF
          exact wk_m_force_34 G0 n  x1 x2 x3 x4 hx1 hx2 hx3 hx4 _ hF
        · rw [if_neg c7] at hF
          refine vj_iconst G (v := (-1)) d_m_force_32 rfl ?_
          cases hF
          exact vj_iret G0 ic_m1 d_m_force_33
set_option maxHeartbeats 4000000 in
set_option maxRecDepth 100000 in
theorem ct_m_why {w : Wd} (hij : ij LR w) (n : Nat) (x1 x2 x3 : Int) (hx1 : inR x1) (hx2 : inR x2) (hx3 : inR x3) {M : Mm} {r : Int} {M9 : Mm} (hF : f_m_why n x1 x2 x3 M = some (r, M9)) : Ct LR w y_m_why b_m_why 5 (some .int) 8 177 1 [.ref (wa w 0), .int (i32 x1), .int (i32 x2), .int (i32 x3)] M r M9 := by
  refine Ct.of hij KstR (by decide +kernel) (Nat.le_of_ble_eq_true rfl) (fun X G0 => ?_)
  have G := G0.1
  show VJ LR w X 5 1 r M9 M [(0, .ref (wa w 0)), (1, .int (i32 x1)), (2, .int (i32 x2)), (3, .int (i32 x3))] [] 0
  unfold f_m_why at hF
  refine vj_aload_n G (p9 := 0) d_m_why_0 rfl rfl ?_
  refine vj_iload_n G (p9 := 1) d_m_why_1 rfl rfl ?_
  obtain ⟨r1, M1, e1, hF⟩ := bnd_some hF
  refine vj_callV3 G (ct_m_isFirm (gx_ij G) n x1 hx1 e1) lkR_0 clR_0 rfl q_1555 cq_m_isFirm rfl (by decide) (by decide) (Nat.le_of_ble_eq_true rfl) d_m_why_2 rfl (fun hr1 => ?_)
  refine vj_if_eq G (tgt := 18) d_m_why_5 (by decide) (ir_b hr1) (fun c2 => ?_) (fun c2 => ?_)
  · rw [if_pos c2] at hF
    refine vj_iconst G (v := (-1)) d_m_why_18 rfl ?_
    cases hF
    exact vj_iret G0 ic_m1 d_m_why_19
  · rw [if_neg c2] at hF
    refine vj_aload_n G (p9 := 0) d_m_why_8 rfl rfl ?_
    refine vj_iload_n G (p9 := 2) d_m_why_9 rfl rfl ?_
    refine vj_iconst G (v := 0) d_m_why_10 rfl ?_
    refine vj_iconst G (v := 4) d_m_why_11 rfl ?_
    obtain ⟨r3, M3, e3, hF⟩ := bnd_some hF
    refine vj_callV3 G (ct_m_in (gx_ij G) n x2 0 4 hx2 ic_0 ic_4 e3) lkR_0 clR_0 rfl q_1543 cq_m_in rfl (by decide) (by decide) (Nat.le_of_ble_eq_true rfl) d_m_why_12 rfl (fun hr3 => ?_)
    refine vj_if_ne G (tgt := 20) d_m_why_15 (by decide) (ir_b hr3) (fun c4 => ?_) (fun c4 => ?_)
    · rw [if_pos c4] at hF
      refine vj_aload_n G (p9 := 0) d_m_why_20 rfl rfl ?_
      refine vj_iload_n G (p9 := 3) d_m_why_21 rfl rfl ?_
      obtain ⟨r5, M5, e5, hF⟩ := bnd_some hF
      refine vj_callV3 G (ct_m_isDay (gx_ij G) n x3 hx3 e5) lkR_0 clR_0 rfl q_1587 cq_m_isDay rfl (by decide) (by decide) (Nat.le_of_ble_eq_true rfl) d_m_why_22 rfl (fun hr5 => ?_)
      refine vj_if_ne G (tgt := 31) d_m_why_25 (by decide) (ir_b hr5) (fun c6 => ?_) (fun c6 => ?_)
      · rw [if_pos c6] at hF
        refine vj_aload_n G (p9 := 0) d_m_why_31 rfl rfl ?_
        refine vj_iload_n G (p9 := 1) d_m_why_32 rfl rfl ?_
        refine vj_iload_n G (p9 := 2) d_m_why_33 rfl rfl ?_
        refine vj_iload_n G (p9 := 3) d_m_why_34 rfl rfl ?_
        obtain ⟨r7, M7, e7, hF⟩ := bnd_some hF
        refine vj_callV1 G (ct_m_ruled (gx_ij G) n x1 x2 x3 hx1 hx2 hx3 e7) lkR_0 clR_0 rfl q_1659 cq_m_ruled rfl (by decide) (by decide) (Nat.le_of_ble_eq_true rfl) d_m_why_35 rfl (fun hr7 => ?_)
        refine vj_istore G (lv2 := [(4, .int (i32 r7)), (0, .ref (wa w 0)), (1, .int (i32 x1)), (2, .int (i32 x2)), (3, .int (i32 x3))]) d_m_why_38 (by decide) rfl ?_
        refine vj_iload G (p9 := 0) d_m_why_40 rfl ?_
        refine vj_if_ge G (tgt := 50) d_m_why_42 (by decide) hr7 (fun c8 => ?_) (fun c8 => ?_)
        · rw [if_pos c8] at hF
          refine vj_bipush G (v := 100) d_m_why_50 rfl ?_
          refine vj_iload G (p9 := 0) d_m_why_52 rfl ?_
          refine vj_imul G d_m_why_54 ?_
          refine vj_aload_n G (p9 := 1) d_m_why_55 rfl rfl ?_
          refine gfR_m_86 G d_m_why_56 ?_
          refine vj_iload_n G (p9 := 3) d_m_why_59 rfl rfl ?_
          obtain ⟨c9, hF⟩ := ck_some hF
          refine vj_iald G (x := x2) lkR_17 (by decide) c9 d_m_why_60 ?_
          refine vj_mr (fun hM10 => ?_)
          refine vj_iadd G d_m_why_61 ?_
          cases hF
          exact vj_iret G0 (ir_w _) d_m_why_62
        · rw [if_neg c8] at hF
          refine vj_bipush G (v := (-5)) d_m_why_45 rfl ?_
          refine vj_goto G (tgt := 62) d_m_why_47 (by decide) ?_
          cases hF
          exact vj_iret G0 ic_m5 d_m_why_62
      · rw [if_neg c6] at hF
        refine vj_bipush G (v := (-2)) d_m_why_28 rfl ?_
        cases hF
        exact vj_iret G0 ic_m2 d_m_why_30
    · rw [if_neg c4] at hF
      refine vj_iconst G (v := (-1)) d_m_why_18 rfl ?_
      cases hF
      exact vj_iret G0 ic_m1 d_m_why_19
set_option maxHeartbeats 4000000 in
set_option maxRecDepth 100000 in
theorem wk_m_layOut_2 {w : Wd} {X : Cx} {r : Int} {M9 : Mm} (G0 : Gx LR w X "WhoRulesModel" b_m_layOut 3 1 23 none) (n : Nat) (k2 : Int → Int → Mm → Rr) (hk2 : ∀ (x1 x2 : Int) (hx1 : inR x1) (hx2 : inR x2) (M : Mm), k2 x1 x2 M = some (r, M9) → VJ LR w X 3 0 r M9 M [(0, .ref (wa w 0)), (1, .int (i32 x1)), (2, .int (i32 x2))] [] 2) (x1 x2 : Int) (hx1 : inR x1) (hx2 : inR x2) (M : Mm) (hF : f_m_layOut_2 n k2 x1 x2 M = some (r, M9)) : VJ LR w X 3 0 r M9 M [(0, .ref (wa w 0)), (1, .int (i32 x1)), (2, .int (i32 x2))] [] 2 := by
  have G := G0.1
  unfold f_m_layOut_2 at hF
  refine vj_iload_n G (p9 := 2) d_m_layOut_2 rfl rfl ?_
  refine vj_aload_n G (p9 := 0) d_m_layOut_3 rfl rfl ?_
  refine gfR_m_19 G d_m_layOut_4 ?_
  refine vj_mr (fun hM1 => ?_)
  refine vj_icmp_ge G (tgt := 42) d_m_layOut_7 (by decide) hx2 (mr_o hM1 lkR_0 flR_0_3) (fun c2 => ?_) (fun c2 => ?_)
  · rw [if_pos c2] at hF
    cases hF
    exact vj_vret G0 d_m_layOut_42
  · rw [if_neg c2] at hF
    refine vj_aload_n G (p9 := 0) d_m_layOut_10 rfl rfl ?_
    refine vj_iload_n G (p9 := 2) d_m_layOut_11 rfl rfl ?_
    refine vj_iload_n G (p9 := 1) d_m_layOut_12 rfl rfl ?_
    obtain ⟨r3, M3, e3, hF⟩ := bnd_some hF
    refine vj_callV0 G (ct_m_findWhose (gx_ij G) n x2 x1 hx2 hx1 e3) lkR_0 clR_0 rfl q_1575 cq_m_findWhose rfl (by decide) (by decide) (Nat.le_of_ble_eq_true rfl) d_m_layOut_13 rfl (fun hr3 => ?_)
    refine vj_aload_n G (p9 := 0) d_m_layOut_16 rfl rfl ?_
    refine gfR_m_130 G d_m_layOut_17 ?_
    refine vj_iload_n G (p9 := 2) d_m_layOut_20 rfl rfl ?_
    refine vj_aload_n G (p9 := 0) d_m_layOut_21 rfl rfl ?_
    refine gfR_m_59 G d_m_layOut_22 ?_
    refine vj_mr (fun hM4 => ?_)
    obtain ⟨c5, hF⟩ := ck_some hF
    refine vj_iast G (x := x2) lkR_22 (by decide) (by decide) (by decide) c5 (mr_o hM4 lkR_0 flR_0_16) d_m_layOut_25 ?_
    refine vj_aload_n G (p9 := 0) d_m_layOut_26 rfl rfl ?_
    refine gfR_m_133 G d_m_layOut_27 ?_
    refine vj_iload_n G (p9 := 2) d_m_layOut_30 rfl rfl ?_
    refine vj_aload_n G (p9 := 0) d_m_layOut_31 rfl rfl ?_
    refine gfR_m_62 G d_m_layOut_32 ?_
    refine vj_mr (fun hM6 => ?_)
    obtain ⟨c7, hF⟩ := ck_some hF
    refine vj_iast G (x := x2) lkR_23 (by decide) (by decide) (by decide) c7 (mr_o hM6 lkR_0 flR_0_17) d_m_layOut_35 ?_
    refine vj_iinc G (p9 := 2) (n := 1) (lv2 := [(2, .int (i32 (w32 (x2 + 1)))), (0, .ref (wa w 0)), (1, .int (i32 x1))]) d_m_layOut_36 rfl (by decide) rfl ?_
    refine vj_goto G (tgt := 2) d_m_layOut_39 (by decide) ?_
    refine vj_sub [1, 2, 0] rfl ?_
    exact hk2 x1 (w32 (x2 + 1)) hx1 (ir_w _) _ hF
set_option maxHeartbeats 4000000 in
set_option maxRecDepth 100000 in
theorem wl_m_layOut_2 {w : Wd} {X : Cx} {r : Int} {M9 : Mm} (G0 : Gx LR w X "WhoRulesModel" b_m_layOut 3 1 23 none) (n : Nat) : ∀ (f : Nat) (x1 x2 : Int) (hx1 : inR x1) (hx2 : inR x2) (M : Mm), lp_m_layOut_2 n f x1 x2 M = some (r, M9) → VJ LR w X 3 0 r M9 M [(0, .ref (wa w 0)), (1, .int (i32 x1)), (2, .int (i32 x2))] [] 2 := by
  intro f
  induction f with
  | zero => intro x1 x2 hx1 hx2 M hF; cases hF
  | succ f ih => intro x1 x2 hx1 hx2 M hF; exact wk_m_layOut_2 G0 n (lp_m_layOut_2 n f) ih x1 x2 hx1 hx2 M hF
set_option maxHeartbeats 4000000 in
set_option maxRecDepth 100000 in
theorem ct_m_layOut {w : Wd} (hij : ij LR w) (n : Nat) (x1 : Int) (hx1 : inR x1) {M : Mm} {r : Int} {M9 : Mm} (hF : f_m_layOut n x1 M = some (r, M9)) : Ct LR w y_m_layOut b_m_layOut 3 none 1 23 0 [.ref (wa w 0), .int (i32 x1)] M r M9 := by
  refine Ct.of hij KstR (by decide +kernel) (Nat.le_of_ble_eq_true rfl) (fun X G0 => ?_)
  have G := G0.1
  show VJ LR w X 3 0 r M9 M [(0, .ref (wa w 0)), (1, .int (i32 x1))] [] 0
  unfold f_m_layOut at hF
  refine vj_iconst G (v := 0) d_m_layOut_0 rfl ?_
  refine vj_istore_n G (lv2 := [(2, .int (i32 0)), (0, .ref (wa w 0)), (1, .int (i32 x1))]) d_m_layOut_1 rfl (by decide) rfl ?_
  refine vj_sub [1, 2, 0] rfl ?_
  exact wl_m_layOut_2 G0 n  n x1 0 hx1 ic_0 _ hF
set_option maxHeartbeats 4000000 in
set_option maxRecDepth 100000 in
theorem wk_m_findVotes_470 {w : Wd} {X : Cx} {r : Int} {M9 : Mm} (G0 : Gx LR w X "WhoRulesModel" b_m_findVotes 11 8 177 none) (n : Nat) (k2 : Int → Int → Mm → Rr) (hk2 : ∀ (x1 x2 : Int) (hx1 : inR x1) (hx2 : inR x2) (M : Mm), k2 x1 x2 M = some (r, M9) → VJ LR w X 11 0 r M9 M [(0, .ref (wa w 0)), (1, .int (i32 x1)), (2, .int (i32 x2))] [] 2) (x1 x2 : Int) (hx1 : inR x1) (hx2 : inR x2) (M : Mm) (hF : f_m_findVotes_470 n k2 x1 x2 M = some (r, M9)) : VJ LR w X 11 0 r M9 M [(0, .ref (wa w 0)), (1, .int (i32 x1)), (2, .int (i32 x2))] [] 470 := by
  have G := G0.1
  unfold f_m_findVotes_470 at hF
  refine vj_iinc G (p9 := 2) (n := 1) (lv2 := [(2, .int (i32 (w32 (x2 + 1)))), (0, .ref (wa w 0)), (1, .int (i32 x1))]) d_m_findVotes_470 rfl (by decide) rfl ?_
  refine vj_goto G (tgt := 2) d_m_findVotes_473 (by decide) ?_
  refine vj_sub [1, 2, 0] rfl ?_
  exact hk2 x1 (w32 (x2 + 1)) hx1 (ir_w _) _ hF
set_option maxHeartbeats 4000000 in
set_option maxRecDepth 100000 in
theorem wk_m_findVotes_443 {w : Wd} {X : Cx} {r : Int} {M9 : Mm} (G0 : Gx LR w X "WhoRulesModel" b_m_findVotes 11 8 177 none) (n : Nat) (k2 : Int → Int → Mm → Rr) (hk2 : ∀ (x1 x2 : Int) (hx1 : inR x1) (hx2 : inR x2) (M : Mm), k2 x1 x2 M = some (r, M9) → VJ LR w X 11 0 r M9 M [(0, .ref (wa w 0)), (1, .int (i32 x1)), (2, .int (i32 x2))] [] 2) (k403 : Int → Int → Int → Int → Mm → Rr) (hk403 : ∀ (x1 x2 x4 x9 : Int) (hx1 : inR x1) (hx2 : inR x2) (hx4 : inR x4) (hx9 : inR x9) (M : Mm), k403 x1 x2 x4 x9 M = some (r, M9) → VJ LR w X 11 0 r M9 M [(0, .ref (wa w 0)), (1, .int (i32 x1)), (2, .int (i32 x2)), (4, .int (i32 x4)), (9, .int (i32 x9))] [] 403) (x1 x2 x4 x9 : Int) (hx1 : inR x1) (hx2 : inR x2) (hx4 : inR x4) (hx9 : inR x9) (M : Mm) (hF : f_m_findVotes_443 n k2 k403 x1 x2 x4 x9 M = some (r, M9)) : VJ LR w X 11 0 r M9 M [(0, .ref (wa w 0)), (1, .int (i32 x1)), (2, .int (i32 x2)), (4, .int (i32 x4)), (9, .int (i32 x9))] [] 443 := by
  have G := G0.1
  unfold f_m_findVotes_443 at hF
  refine vj_aload_n G (p9 := 0) d_m_findVotes_443 rfl rfl ?_
  refine gfR_m_139 G d_m_findVotes_444 ?_
  refine vj_iload_n G (p9 := 2) d_m_findVotes_447 rfl rfl ?_
  refine vj_dup2_11 G d_m_findVotes_448 rfl rfl ?_
  obtain ⟨c1, hF⟩ := ck_some hF
  refine vj_iald G (x := x2) lkR_25 (by decide) c1 d_m_findVotes_449 ?_
  refine vj_mr (fun hM2 => ?_)
  refine vj_aload_n G (p9 := 0) d_m_findVotes_450 rfl rfl ?_
  refine gfR_m_136 G d_m_findVotes_451 ?_
  refine vj_bipush G (v := 16) d_m_findVotes_454 rfl ?_
  refine vj_iload_n G (p9 := 2) d_m_findVotes_456 rfl rfl ?_
  refine vj_imul G d_m_findVotes_457 ?_
  refine vj_iload G (p9 := 4) d_m_findVotes_458 rfl ?_
  refine vj_iadd G d_m_findVotes_460 ?_
  obtain ⟨c3, hF⟩ := ck_some hF
  refine vj_iald G (x := w32 ((w32 (16 * x2)) + x9)) lkR_24 (by decide) c3 d_m_findVotes_461 ?_
  refine vj_iadd G d_m_findVotes_462 ?_
  obtain ⟨c4, hF⟩ := ck_some hF
  refine vj_iast G (x := x2) lkR_25 (by decide) (by decide) (by decide) c4 (ir_w _) d_m_findVotes_463 ?_
  refine vj_iinc G (p9 := 4) (n := 1) (lv2 := [(9, .int (i32 (w32 (x9 + 1)))), (0, .ref (wa w 0)), (1, .int (i32 x1)), (2, .int (i32 x2)), (4, .int (i32 x4))]) d_m_findVotes_464 rfl (by decide) rfl ?_
  refine vj_goto G (tgt := 403) d_m_findVotes_467 (by decide) ?_
  refine vj_sub [1, 2, 3, 4, 0] rfl ?_
  exact hk403 x1 x2 x4 (w32 (x9 + 1)) hx1 hx2 hx4 (ir_w _) _ hF
set_option maxHeartbeats 4000000 in
set_option maxRecDepth 100000 in
theorem wk_m_findVotes_403 {w : Wd} {X : Cx} {r : Int} {M9 : Mm} (G0 : Gx LR w X "WhoRulesModel" b_m_findVotes 11 8 177 none) (n : Nat) (k2 : Int → Int → Mm → Rr) (hk2 : ∀ (x1 x2 : Int) (hx1 : inR x1) (hx2 : inR x2) (M : Mm), k2 x1 x2 M = some (r, M9) → VJ LR w X 11 0 r M9 M [(0, .ref (wa w 0)), (1, .int (i32 x1)), (2, .int (i32 x2))] [] 2) (k403 : Int → Int → Int → Int → Mm → Rr) (hk403 : ∀ (x1 x2 x4 x9 : Int) (hx1 : inR x1) (hx2 : inR x2) (hx4 : inR x4) (hx9 : inR x9) (M : Mm), k403 x1 x2 x4 x9 M = some (r, M9) → VJ LR w X 11 0 r M9 M [(0, .ref (wa w 0)), (1, .int (i32 x1)), (2, .int (i32 x2)), (4, .int (i32 x4)), (9, .int (i32 x9))] [] 403) (x1 x2 x4 x9 : Int) (hx1 : inR x1) (hx2 : inR x2) (hx4 : inR x4) (hx9 : inR x9) (M : Mm) (hF : f_m_findVotes_403 n k2 k403 x1 x2 x4 x9 M = some (r, M9)) : VJ LR w X 11 0 r M9 M [(0, .ref (wa w 0)), (1, .int (i32 x1)), (2, .int (i32 x2)), (4, .int (i32 x4)), (9, .int (i32 x9))] [] 403 := by
  have G := G0.1
  unfold f_m_findVotes_403 at hF
  refine vj_iload G (p9 := 4) d_m_findVotes_403 rfl ?_
  refine vj_aload_n G (p9 := 0) d_m_findVotes_405 rfl rfl ?_
  refine gfR_m_13 G d_m_findVotes_406 ?_
  refine vj_mr (fun hM1 => ?_)
  refine vj_icmp_ge G (tgt := 470) d_m_findVotes_409 (by decide) hx9 (mr_o hM1 lkR_0 flR_0_1) (fun c2 => ?_) (fun c2 => ?_)
  · rw [if_pos c2] at hF
    refine vj_sub [0, 1, 2] rfl ?_
    exact wk_m_findVotes_470 G0 n k2 hk2 x1 x2 hx1 hx2 _ hF
  · rw [if_neg c2] at hF
    refine vj_aload_n G (p9 := 0) d_m_findVotes_412 rfl rfl ?_
    refine gfR_m_136 G d_m_findVotes_413 ?_
    refine vj_bipush G (v := 16) d_m_findVotes_416 rfl ?_
    refine vj_iload_n G (p9 := 2) d_m_findVotes_418 rfl rfl ?_
    refine vj_imul G d_m_findVotes_419 ?_
    refine vj_iload G (p9 := 4) d_m_findVotes_420 rfl ?_
    refine vj_iadd G d_m_findVotes_422 ?_
    obtain ⟨c3, hF⟩ := ck_some hF
    refine vj_iald G (x := w32 ((w32 (16 * x2)) + x9)) lkR_24 (by decide) c3 d_m_findVotes_423 ?_
    refine vj_mr (fun hM4 => ?_)
    refine vj_iload G (p9 := 3) d_m_findVotes_424 rfl ?_
    refine vj_icmp_le G (tgt := 443) d_m_findVotes_426 (by decide) (mr_a hM4 lkR_24) hx4 (fun c5 => ?_) (fun c5 => ?_)
    · rw [if_pos c5] at hF
      exact wk_m_findVotes_443 G0 n k2 hk2 k403 hk403 x1 x2 x4 x9 hx1 hx2 hx4 hx9 _ hF
    · rw [if_neg c5] at hF
      refine vj_aload_n G (p9 := 0) d_m_findVotes_429 rfl rfl ?_
      refine gfR_m_136 G d_m_findVotes_430 ?_
      refine vj_bipush G (v := 16) d_m_findVotes_433 rfl ?_
      refine vj_iload_n G (p9 := 2) d_m_findVotes_435 rfl rfl ?_
      refine vj_imul G d_m_findVotes_436 ?_
      refine vj_iload G (p9 := 4) d_m_findVotes_437 rfl ?_
      refine vj_iadd G d_m_findVotes_439 ?_
      refine vj_iload G (p9 := 3) d_m_findVotes_440 rfl ?_
      obtain ⟨c6, hF⟩ := ck_some hF
      refine vj_iast G (x := w32 ((w32 (16 * x2)) + x9)) lkR_24 (by decide) (by decide) (by decide) c6 hx4 d_m_findVotes_442 ?_
      exact wk_m_findVotes_443 G0 n k2 hk2 k403 hk403 x1 x2 x4 x9 hx1 hx2 hx4 hx9 _ hF
set_option maxHeartbeats 4000000 in
set_option maxRecDepth 100000 in
theorem wl_m_findVotes_403 {w : Wd} {X : Cx} {r : Int} {M9 : Mm} (G0 : Gx LR w X "WhoRulesModel" b_m_findVotes 11 8 177 none) (n : Nat) (k2 : Int → Int → Mm → Rr) (hk2 : ∀ (x1 x2 : Int) (hx1 : inR x1) (hx2 : inR x2) (M : Mm), k2 x1 x2 M = some (r, M9) → VJ LR w X 11 0 r M9 M [(0, .ref (wa w 0)), (1, .int (i32 x1)), (2, .int (i32 x2))] [] 2) : ∀ (f : Nat) (x1 x2 x4 x9 : Int) (hx1 : inR x1) (hx2 : inR x2) (hx4 : inR x4) (hx9 : inR x9) (M : Mm), lp_m_findVotes_403 n k2 f x1 x2 x4 x9 M = some (r, M9) → VJ LR w X 11 0 r M9 M [(0, .ref (wa w 0)), (1, .int (i32 x1)), (2, .int (i32 x2)), (4, .int (i32 x4)), (9, .int (i32 x9))] [] 403 := by
  intro f
  induction f with
  | zero => intro x1 x2 x4 x9 hx1 hx2 hx4 hx9 M hF; cases hF
  | succ f ih => intro x1 x2 x4 x9 hx1 hx2 hx4 hx9 M hF; exact wk_m_findVotes_403 G0 n k2 hk2 (lp_m_findVotes_403 n k2 f) ih x1 x2 x4 x9 hx1 hx2 hx4 hx9 M hF
set_option maxHeartbeats 4000000 in
set_option maxRecDepth 100000 in
theorem wk_m_findVotes_387 {w : Wd} {X : Cx} {r : Int} {M9 : Mm} (G0 : Gx LR w X "WhoRulesModel" b_m_findVotes 11 8 177 none) (n : Nat) (k2 : Int → Int → Mm → Rr) (hk2 : ∀ (x1 x2 : Int) (hx1 : inR x1) (hx2 : inR x2) (M : Mm), k2 x1 x2 M = some (r, M9) → VJ LR w X 11 0 r M9 M [(0, .ref (wa w 0)), (1, .int (i32 x1)), (2, .int (i32 x2))] [] 2) (k238 : Int → Int → Int → Int → Int → Int → Int → Mm → Rr) (hk238 : ∀ (x1 x2 x4 x6 x7 x8 x9 : Int) (hx1 : inR x1) (hx2 : inR x2) (hx4 : inR x4) (hx6 : inR x6) (hx7 : inR x7) (hx8 : inR x8) (hx9 : inR x9) (M : Mm), k238 x1 x2 x4 x6 x7 x8 x9 M = some (r, M9) → VJ LR w X 11 0 r M9 M [(0, .ref (wa w 0)), (1, .int (i32 x1)), (2, .int (i32 x2)), (4, .int (i32 x4)), (6, .int (i32 x6)), (7, .int (i32 x7)), (8, .int (i32 x8)), (9, .int (i32 x9))] [] 238) (x1 x2 x4 x6 x7 x8 x9 : Int) (hx1 : inR x1) (hx2 : inR x2) (hx4 : inR x4) (hx6 : inR x6) (hx7 : inR x7) (hx8 : inR x8) (hx9 : inR x9) (M : Mm) (hF : f_m_findVotes_387 n k2 k238 x1 x2 x4 x6 x7 x8 x9 M = some (r, M9)) : VJ LR w X 11 0 r M9 M [(0, .ref (wa w 0)), (1, .int (i32 x1)), (2, .int (i32 x2)), (4, .int (i32 x4)), (6, .int (i32 x6)), (7, .int (i32 x7)), (8, .int (i32 x8)), (9, .int (i32 x9))] [] 387 := by
  have G := G0.1
  unfold f_m_findVotes_387 at hF
  refine vj_iinc G (p9 := 7) (n := 1) (lv2 := [(9, .int (i32 (w32 (x9 + 1)))), (0, .ref (wa w 0)), (1, .int (i32 x1)), (2, .int (i32 x2)), (4, .int (i32 x4)), (6, .int (i32 x6)), (7, .int (i32 x7)), (8, .int (i32 x8))]) d_m_findVotes_387 rfl (by decide) rfl ?_
  refine vj_goto G (tgt := 238) d_m_findVotes_390 (by decide) ?_
  refine vj_sub [1, 2, 3, 4, 5, 6, 7, 0] rfl ?_
  exact hk238 x1 x2 x4 x6 x7 x8 (w32 (x9 + 1)) hx1 hx2 hx4 hx6 hx7 hx8 (ir_w _) _ hF
set_option maxHeartbeats 4000000 in
set_option maxRecDepth 100000 in
theorem wk_m_findVotes_384 {w : Wd} {X : Cx} {r : Int} {M9 : Mm} (G0 : Gx LR w X "WhoRulesModel" b_m_findVotes 11 8 177 none) (n : Nat) (k2 : Int → Int → Mm → Rr) (hk2 : ∀ (x1 x2 : Int) (hx1 : inR x1) (hx2 : inR x2) (M : Mm), k2 x1 x2 M = some (r, M9) → VJ LR w X 11 0 r M9 M [(0, .ref (wa w 0)), (1, .int (i32 x1)), (2, .int (i32 x2))] [] 2) (k238 : Int → Int → Int → Int → Int → Int → Int → Mm → Rr) (hk238 : ∀ (x1 x2 x4 x6 x7 x8 x9 : Int) (hx1 : inR x1) (hx2 : inR x2) (hx4 : inR x4) (hx6 : inR x6) (hx7 : inR x7) (hx8 : inR x8) (hx9 : inR x9) (M : Mm), k238 x1 x2 x4 x6 x7 x8 x9 M = some (r, M9) → VJ LR w X 11 0 r M9 M [(0, .ref (wa w 0)), (1, .int (i32 x1)), (2, .int (i32 x2)), (4, .int (i32 x4)), (6, .int (i32 x6)), (7, .int (i32 x7)), (8, .int (i32 x8)), (9, .int (i32 x9))] [] 238) (x1 x2 x4 x6 x7 x8 x9 s1 s2 s3 s4 : Int) (hx1 : inR x1) (hx2 : inR x2) (hx4 : inR x4) (hx6 : inR x6) (hx7 : inR x7) (hx8 : inR x8) (hx9 : inR x9) (hs1 : inR s1) (hs2 : inR s2) (hs3 : inR s3) (hs4 : inR s4) (M : Mm) (hF : f_m_findVotes_384 n k2 k238 x1 x2 x4 x6 x7 x8 x9 s1 s2 s3 s4 M = some (r, M9)) : VJ LR w X 11 0 r M9 M [(0, .ref (wa w 0)), (1, .int (i32 x1)), (2, .int (i32 x2)), (4, .int (i32 x4)), (6, .int (i32 x6)), (7, .int (i32 x7)), (8, .int (i32 x8)), (9, .int (i32 x9))] [.int (i32 s4), .int (i32 s3), .int (i32 s2), .int (i32 s1), .ref (wa w 24)] 384 := by
  have G := G0.1
  unfold f_m_findVotes_384 at hF
  refine vj_imul G d_m_findVotes_384 ?_
  refine vj_iadd G d_m_findVotes_385 ?_
  obtain ⟨c1, hF⟩ := ck_some hF
  refine vj_iast G (x := s1) lkR_24 (by decide) (by decide) (by decide) c1 (ir_w _) d_m_findVotes_386 ?_
  exact wk_m_findVotes_387 G0 n k2 hk2 k238 hk238 x1 x2 x4 x6 x7 x8 x9 hx1 hx2 hx4 hx6 hx7 hx8 hx9 _ hF
set_option maxHeartbeats 4000000 in
set_option maxRecDepth 100000 in
theorem wk_m_findVotes_344 {w : Wd} {X : Cx} {r : Int} {M9 : Mm} (G0 : Gx LR w X "WhoRulesModel" b_m_findVotes 11 8 177 none) (n : Nat) (k2 : Int → Int → Mm → Rr) (hk2 : ∀ (x1 x2 : Int) (hx1 : inR x1) (hx2 : inR x2) (M : Mm), k2 x1 x2 M = some (r, M9) → VJ LR w X 11 0 r M9 M [(0, .ref (wa w 0)), (1, .int (i32 x1)), (2, .int (i32 x2))] [] 2) (k238 : Int → Int → Int → Int → Int → Int → Int → Mm → Rr) (hk238 : ∀ (x1 x2 x4 x6 x7 x8 x9 : Int) (hx1 : inR x1) (hx2 : inR x2) (hx4 : inR x4) (hx6 : inR x6) (hx7 : inR x7) (hx8 : inR x8) (hx9 : inR x9) (M : Mm), k238 x1 x2 x4 x6 x7 x8 x9 M = some (r, M9) → VJ LR w X 11 0 r M9 M [(0, .ref (wa w 0)), (1, .int (i32 x1)), (2, .int (i32 x2)), (4, .int (i32 x4)), (6, .int (i32 x6)), (7, .int (i32 x7)), (8, .int (i32 x8)), (9, .int (i32 x9))] [] 238) (x1 x2 x4 x6 x7 x8 x9 x10 : Int) (hx1 : inR x1) (hx2 : inR x2) (hx4 : inR x4) (hx6 : inR x6) (hx7 : inR x7) (hx8 : inR x8) (hx9 : inR x9) (hx10 : inR x10) (M : Mm) (hF : f_m_findVotes_344 n k2 k238 x1 x2 x4 x6 x7 x8 x9 x10 M = some (r, M9)) : VJ LR w X 11 0 r M9 M [(0, .ref (wa w 0)), (1, .int (i32 x1)), (2, .int (i32 x2)), (4, .int (i32 x4)), (6, .int (i32 x6)), (7, .int (i32 x7)), (8, .int (i32 x8)), (9, .int (i32 x9)), (10, .int (i32 x10))] [] 344 := by
  have G := G0.1
  unfold f_m_findVotes_344 at hF
  refine vj_aload_n G (p9 := 0) d_m_findVotes_344 rfl rfl ?_
  refine gfR_m_136 G d_m_findVotes_345 ?_
  refine vj_bipush G (v := 16) d_m_findVotes_348 rfl ?_
  refine vj_iload_n G (p9 := 2) d_m_findVotes_350 rfl rfl ?_
  refine vj_imul G d_m_findVotes_351 ?_
  refine vj_iload G (p9 := 8) d_m_findVotes_352 rfl ?_
  refine vj_iadd G d_m_findVotes_354 ?_
  refine vj_dup2_11 G d_m_findVotes_355 rfl rfl ?_
  obtain ⟨c1, hF⟩ := ck_some hF
  refine vj_iald G (x := w32 ((w32 (16 * x2)) + x10)) lkR_24 (by decide) c1 d_m_findVotes_356 ?_
  refine vj_mr (fun hM2 => ?_)
  refine vj_aload_n G (p9 := 0) d_m_findVotes_357 rfl rfl ?_
  refine gfR_m_41 G d_m_findVotes_358 ?_
  refine vj_iload G (p9 := 7) d_m_findVotes_361 rfl ?_
  obtain ⟨c3, hF⟩ := ck_some hF
  refine vj_iald G (x := x9) lkR_6 (by decide) c3 d_m_findVotes_363 ?_
  refine vj_iload_n G (p9 := 1) d_m_findVotes_364 rfl rfl ?_
  refine vj_aload_n G (p9 := 0) d_m_findVotes_365 rfl rfl ?_
  refine gfR_m_133 G d_m_findVotes_366 ?_
  refine vj_iload G (p9 := 7) d_m_findVotes_369 rfl ?_
  obtain ⟨c4, hF⟩ := ck_some hF
  refine vj_iald G (x := x9) lkR_23 (by decide) c4 d_m_findVotes_371 ?_
  refine vj_isub G d_m_findVotes_372 ?_
  refine vj_iload G (p9 := 4) d_m_findVotes_373 rfl ?_
  refine vj_icmp_lt G (tgt := 383) d_m_findVotes_375 (by decide) (ir_w _) hx6 (fun c5 => ?_) (fun c5 => ?_)
  · rw [if_pos c5] at hF
    refine vj_iconst G (v := 1) d_m_findVotes_383 rfl ?_
    refine vj_sub [0, 1, 2, 3, 4, 5, 6, 7] rfl ?_
    exact wk_m_findVotes_384 G0 n k2 hk2 k238 hk238 x1 x2 x4 x6 x7 x8 x9 (w32 ((w32 (16 * x2)) + x10)) (M 24 (w32 ((w32 (16 * x2)) + x10)).toNat) (M 6 x9.toNat) 1 hx1 hx2 hx4 hx6 hx7 hx8 hx9 (ir_w _) (mr_a hM2 lkR_24) (mr_a hM2 lkR_6) ic_1 _ hF
  · rw [if_neg c5] at hF
    refine vj_iload G (p9 := 5) d_m_findVotes_378 rfl ?_
    refine vj_goto G (tgt := 384) d_m_findVotes_380 (by decide) ?_
    refine vj_sub [0, 1, 2, 3, 4, 5, 6, 7] rfl ?_
    exact wk_m_findVotes_384 G0 n k2 hk2 k238 hk238 x1 x2 x4 x6 x7 x8 x9 (w32 ((w32 (16 * x2)) + x10)) (M 24 (w32 ((w32 (16 * x2)) + x10)).toNat) (M 6 x9.toNat) x7 hx1 hx2 hx4 hx6 hx7 hx8 hx9 (ir_w _) (mr_a hM2 lkR_24) (mr_a hM2 lkR_6) hx7 _ hF
set_option maxHeartbeats 4000000 in
set_option maxRecDepth 100000 in
theorem wk_m_findVotes_238 {w : Wd} {X : Cx} {r : Int} {M9 : Mm} (G0 : Gx LR w X "WhoRulesModel" b_m_findVotes 11 8 177 none) (n : Nat) (k2 : Int → Int → Mm → Rr) (hk2 : ∀ (x1 x2 : Int) (hx1 : inR x1) (hx2 : inR x2) (M : Mm), k2 x1 x2 M = some (r, M9) → VJ LR w X 11 0 r M9 M [(0, .ref (wa w 0)), (1, .int (i32 x1)), (2, .int (i32 x2))] [] 2) (k238 : Int → Int → Int → Int → Int → Int → Int → Mm → Rr) (hk238 : ∀ (x1 x2 x4 x6 x7 x8 x9 : Int) (hx1 : inR x1) (hx2 : inR x2) (hx4 : inR x4) (hx6 : inR x6) (hx7 : inR x7) (hx8 : inR x8) (hx9 : inR x9) (M : Mm), k238 x1 x2 x4 x6 x7 x8 x9 M = some (r, M9) → VJ LR w X 11 0 r M9 M [(0, .ref (wa w 0)), (1, .int (i32 x1)), (2, .int (i32 x2)), (4, .int (i32 x4)), (6, .int (i32 x6)), (7, .int (i32 x7)), (8, .int (i32 x8)), (9, .int (i32 x9))] [] 238) (x1 x2 x4 x6 x7 x8 x9 : Int) (hx1 : inR x1) (hx2 : inR x2) (hx4 : inR x4) (hx6 : inR x6) (hx7 : inR x7) (hx8 : inR x8) (hx9 : inR x9) (M : Mm) (hF : f_m_findVotes_238 n k2 k238 x1 x2 x4 x6 x7 x8 x9 M = some (r, M9)) : VJ LR w X 11 0 r M9 M [(0, .ref (wa w 0)), (1, .int (i32 x1)), (2, .int (i32 x2)), (4, .int (i32 x4)), (6, .int (i32 x6)), (7, .int (i32 x7)), (8, .int (i32 x8)), (9, .int (i32 x9))] [] 238 := by
  have G := G0.1
  unfold f_m_findVotes_238 at hF
  refine vj_iload G (p9 := 7) d_m_findVotes_238 rfl ?_
  refine vj_aload_n G (p9 := 0) d_m_findVotes_240 rfl rfl ?_
  refine gfR_m_19 G d_m_findVotes_241 ?_
  refine vj_mr (fun hM1 => ?_)
  refine vj_icmp_ge G (tgt := 393) d_m_findVotes_244 (by decide) hx9 (mr_o hM1 lkR_0 flR_0_3) (fun c2 => ?_) (fun c2 => ?_)
  · rw [if_pos c2] at hF
    refine vj_aload_n G (p9 := 0) d_m_findVotes_393 rfl rfl ?_
    refine gfR_m_139 G d_m_findVotes_394 ?_
    refine vj_iload_n G (p9 := 2) d_m_findVotes_397 rfl rfl ?_
    refine vj_iconst G (v := 0) d_m_findVotes_398 rfl ?_
    obtain ⟨c3, hF⟩ := ck_some hF
    refine vj_iast G (x := x2) lkR_25 (by decide) (by decide) (by decide) c3 ic_0 d_m_findVotes_399 ?_
    refine vj_iconst G (v := 0) d_m_findVotes_400 rfl ?_
    refine vj_istore G (lv2 := [(9, .int (i32 0)), (0, .ref (wa w 0)), (1, .int (i32 x1)), (2, .int (i32 x2)), (4, .int (i32 x4)), (6, .int (i32 x6)), (7, .int (i32 x7)), (8, .int (i32 x8))]) d_m_findVotes_401 (by decide) rfl ?_
    refine vj_sub [1, 2, 3, 4, 0] rfl ?_
    exact wl_m_findVotes_403 G0 n k2 hk2 n x1 x2 x4 0 hx1 hx2 hx4 ic_0 _ hF
  · rw [if_neg c2] at hF
    refine vj_aload_n G (p9 := 0) d_m_findVotes_247 rfl rfl ?_
    refine gfR_m_130 G d_m_findVotes_248 ?_
    refine vj_iload G (p9 := 7) d_m_findVotes_251 rfl ?_
    obtain ⟨c4, hF⟩ := ck_some hF
    refine vj_iald G (x := x9) lkR_22 (by decide) c4 d_m_findVotes_253 ?_
    refine vj_mr (fun hM5 => ?_)
    refine vj_istore G (lv2 := [(10, .int (i32 (M 22 x9.toNat))), (0, .ref (wa w 0)), (1, .int (i32 x1)), (2, .int (i32 x2)), (4, .int (i32 x4)), (6, .int (i32 x6)), (7, .int (i32 x7)), (8, .int (i32 x8)), (9, .int (i32 x9))]) d_m_findVotes_254 (by decide) rfl ?_
    refine vj_aload_n G (p9 := 1) d_m_findVotes_256 rfl rfl ?_
    refine gfR_m_32 G d_m_findVotes_257 ?_
    refine vj_iload G (p9 := 8) d_m_findVotes_260 rfl ?_
    obtain ⟨c6, hF⟩ := ck_some hF
    refine vj_iald G (x := x9) lkR_3 (by decide) c6 d_m_findVotes_262 ?_
    refine vj_iload_n G (p9 := 3) d_m_findVotes_263 rfl rfl ?_
    refine vj_icmp_ne G (tgt := 387) d_m_findVotes_264 (by decide) (mr_a hM5 lkR_3) hx2 (fun c7 => ?_) (fun c7 => ?_)
    · rw [if_pos c7] at hF
      refine vj_sub [1, 2, 3, 4, 5, 6, 7, 8] rfl ?_
      exact wk_m_findVotes_387 G0 n k2 hk2 k238 hk238 x1 x2 x4 x6 x7 x8 x9 hx1 hx2 hx4 hx6 hx7 hx8 hx9 _ hF
    · rw [if_neg c7] at hF
      refine vj_iload G (p9 := 0) d_m_findVotes_267 rfl ?_
      refine vj_if_lt G (tgt := 387) d_m_findVotes_269 (by decide) (mr_a hM5 lkR_22) (fun c8 => ?_) (fun c8 => ?_)
      · rw [if_pos c8] at hF
        refine vj_sub [1, 2, 3, 4, 5, 6, 7, 8] rfl ?_
        exact wk_m_findVotes_387 G0 n k2 hk2 k238 hk238 x1 x2 x4 x6 x7 x8 x9 hx1 hx2 hx4 hx6 hx7 hx8 hx9 _ hF
      · rw [if_neg c8] at hF
        refine vj_iload G (p9 := 0) d_m_findVotes_272 rfl ?_
        refine vj_iload_n G (p9 := 3) d_m_findVotes_274 rfl rfl ?_
        refine vj_icmp_eq G (tgt := 387) d_m_findVotes_275 (by decide) (mr_a hM5 lkR_22) hx2 (fun c9 => ?_) (fun c9 => ?_)
        · rw [if_pos c9] at hF
          refine vj_sub [1, 2, 3, 4, 5, 6, 7, 8] rfl ?_
          exact wk_m_findVotes_387 G0 n k2 hk2 k238 hk238 x1 x2 x4 x6 x7 x8 x9 hx1 hx2 hx4 hx6 hx7 hx8 hx9 _ hF
        · rw [if_neg c9] at hF
          refine vj_aload_n G (p9 := 1) d_m_findVotes_278 rfl rfl ?_
          refine gfR_m_25 G d_m_findVotes_279 ?_
          refine vj_iload G (p9 := 0) d_m_findVotes_282 rfl ?_
          obtain ⟨c10, hF⟩ := ck_some hF
          refine vj_iald G (x := (M 22 x9.toNat)) lkR_1 (by decide) c10 d_m_findVotes_284 ?_
          refine vj_mr (fun hM11 => ?_)
          refine vj_iconst G (v := 4) d_m_findVotes_285 rfl ?_
          refine vj_icmp_eq G (tgt := 387) d_m_findVotes_286 (by decide) (mr_a hM11 lkR_1) ic_4 (fun c12 => ?_) (fun c12 => ?_)
          · rw [if_pos c12] at hF
            refine vj_sub [1, 2, 3, 4, 5, 6, 7, 8] rfl ?_
            exact wk_m_findVotes_387 G0 n k2 hk2 k238 hk238 x1 x2 x4 x6 x7 x8 x9 hx1 hx2 hx4 hx6 hx7 hx8 hx9 _ hF
          · rw [if_neg c12] at hF
            refine vj_aload_n G (p9 := 1) d_m_findVotes_289 rfl rfl ?_
            refine gfR_m_25 G d_m_findVotes_290 ?_
            refine vj_iload G (p9 := 0) d_m_findVotes_293 rfl ?_
            obtain ⟨c13, hF⟩ := ck_some hF
            refine vj_iald G (x := (M 22 x9.toNat)) lkR_1 (by decide) c13 d_m_findVotes_295 ?_
            refine vj_mr (fun hM14 => ?_)
            refine vj_iconst G (v := 5) d_m_findVotes_296 rfl ?_
            refine vj_icmp_ne G (tgt := 303) d_m_findVotes_297 (by decide) (mr_a hM14 lkR_1) ic_5 (fun c15 => ?_) (fun c15 => ?_)
            · rw [if_pos c15] at hF
              refine vj_aload_n G (p9 := 1) d_m_findVotes_303 rfl rfl ?_
              refine vj_iload G (p9 := 8) d_m_findVotes_304 rfl ?_
              refine vj_iload G (p9 := 0) d_m_findVotes_306 rfl ?_
              refine vj_iload_n G (p9 := 2) d_m_findVotes_308 rfl rfl ?_
              refine vj_aload_n G (p9 := 1) d_m_findVotes_309 rfl rfl ?_
              refine gfR_m_133 G d_m_findVotes_310 ?_
              refine vj_iload G (p9 := 8) d_m_findVotes_313 rfl ?_
              obtain ⟨c16, hF⟩ := ck_some hF
              refine vj_iald G (x := x9) lkR_23 (by decide) c16 d_m_findVotes_315 ?_
              refine vj_mr (fun hM17 => ?_)
              refine vj_isub G d_m_findVotes_316 ?_
              obtain ⟨r18, M18, e18, hF⟩ := bnd_some hF
              refine vj_callV0 G (ct_m_putFacts (gx_ij G) n x9 (M 22 x9.toNat) (w32 (x1 - (M 23 x9.toNat))) hx9 (mr_a hM5 lkR_22) (ir_w _) e18) lkR_0 clR_0 rfl q_1655 cq_m_putFacts rfl (by decide) (by decide) (Nat.le_of_ble_eq_true rfl) d_m_findVotes_317 rfl (fun hr18 => ?_)
              refine vj_iload G (p9 := 7) d_m_findVotes_320 rfl ?_
              refine vj_if_lt G (tgt := 344) d_m_findVotes_322 (by decide) hx8 (fun c19 => ?_) (fun c19 => ?_)
              · rw [if_pos c19] at hF
                refine vj_sub [1, 2, 3, 4, 5, 6, 7, 8, 0] rfl ?_
                exact wk_m_findVotes_344 G0 n k2 hk2 k238 hk238 x1 x2 x4 x6 x7 x8 x9 (M 22 x9.toNat) hx1 hx2 hx4 hx6 hx7 hx8 hx9 (mr_a hM5 lkR_22) _ hF
              · rw [if_neg c19] at hF
                refine vj_aload_n G (p9 := 1) d_m_findVotes_325 rfl rfl ?_
                refine vj_iload G (p9 := 7) d_m_findVotes_326 rfl ?_
                obtain ⟨r20, M20, e20, hF⟩ := bnd_some hF
                refine vj_callV3 G (ct_m_goes (gx_ij G) n x8 hx8 e20) lkR_0 clR_0 rfl q_1599 cq_m_goes rfl (by decide) (by decide) (Nat.le_of_ble_eq_true rfl) d_m_findVotes_328 rfl (fun hr20 => ?_)
                refine vj_if_eq G (tgt := 344) d_m_findVotes_331 (by decide) (ir_b hr20) (fun c21 => ?_) (fun c21 => ?_)
                · rw [if_pos c21] at hF
                  refine vj_sub [1, 2, 3, 4, 5, 6, 7, 8, 0] rfl ?_
                  exact wk_m_findVotes_344 G0 n k2 hk2 k238 hk238 x1 x2 x4 x6 x7 x8 x9 (M 22 x9.toNat) hx1 hx2 hx4 hx6 hx7 hx8 hx9 (mr_a hM5 lkR_22) _ hF
                · rw [if_neg c21] at hF
                  refine vj_aload_n G (p9 := 1) d_m_findVotes_334 rfl rfl ?_
                  refine gfR_m_95 G d_m_findVotes_335 ?_
                  refine vj_mr (fun hM22 => ?_)
                  refine vj_if_eq G (tgt := 344) d_m_findVotes_338 (by decide) (ir_b (mr_ob hM22 lkR_0 flR_0_28)) (fun c23 => ?_) (fun c23 => ?_)
                  · rw [if_pos c23] at hF
                    refine vj_sub [1, 2, 3, 4, 5, 6, 7, 8, 0] rfl ?_
                    exact wk_m_findVotes_344 G0 n k2 hk2 k238 hk238 x1 x2 x4 x6 x7 x8 x9 (M 22 x9.toNat) hx1 hx2 hx4 hx6 hx7 hx8 hx9 (mr_a hM5 lkR_22) _ hF
                  · rw [if_neg c23] at hF
                    refine vj_goto G (tgt := 387) d_m_findVotes_341 (by decide) ?_
                    refine vj_sub [1, 2, 3, 4, 5, 6, 7, 8] rfl ?_
                    exact wk_m_findVotes_387 G0 n k2 hk2 k238 hk238 x1 x2 x4 x6 x7 x8 x9 hx1 hx2 hx4 hx6 hx7 hx8 hx9 _ hF
            · rw [if_neg c15] at hF
              refine vj_goto G (tgt := 387) d_m_findVotes_300 (by decide) ?_
              refine vj_sub [1, 2, 3, 4, 5, 6, 7, 8] rfl ?_
              exact wk_m_findVotes_387 G0 n k2 hk2 k238 hk238 x1 x2 x4 x6 x7 x8 x9 hx1 hx2 hx4 hx6 hx7 hx8 hx9 _ hF
