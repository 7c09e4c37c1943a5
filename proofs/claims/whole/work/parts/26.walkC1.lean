/-! Written by wip/whole/gen. Walks. -/
set_option maxHeartbeats 4000000 in
set_option maxRecDepth 100000 in
theorem ct_W_force {w : Wd} (hij : ij LC w) (n : Nat) (x1 x2 x3 x4 : Int) (hx1 : inR x1) (hx2 : inR x2) (hx3 : inR x3) (hx4 : inR x4) {M : Mm} {r : Int} {M9 : Mm} (hF : f_W_force n x1 x2 x3 x4 M = some (r, M9)) : Ct LC w y_W_force b_W_force 5 (some .int) 5 125 1 [.ref (wa w 0), .int (i32 x1), .int (i32 x2), .int (i32 x3), .int (i32 x4)] M r M9 := by
  refine Ct.of hij KstC (by decide +kernel) (Nat.le_of_ble_eq_true rfl) (fun X G0 => ?_)
  have G := G0.1
  show VJ LC w X 5 1 r M9 M [(0, .ref (wa w 0)), (1, .int (i32 x1)), (2, .int (i32 x2)), (3, .int (i32 x3)), (4, .int (i32 x4))] [] 0
  unfold f_W_force at hF
  refine vj_aload_n G (p9 := 0) d_W_force_0 rfl rfl ?_
  refine gfC_W_18 G d_W_force_1 ?_
  refine vj_iload_n G (p9 := 1) d_W_force_4 rfl rfl ?_
  obtain ⟨r1, M1, e1, hF⟩ := bnd_some hF
  refine vj_callV3 G (ct_R_isFirm (gx_ij G) n x1 hx1 e1) lkC_1 clC_7 rfl q_592 cq_R_isFirm rfl (by decide) (by decide) (Nat.le_of_ble_eq_true rfl) d_W_force_5 rfl (fun hr1 => ?_)
  refine vj_if_eq G (tgt := 35) d_W_force_8 (by decide) (ir_b hr1) (fun c2 => ?_) (fun c2 => ?_)
  · rw [if_pos c2] at hF
    refine vj_iconst G (v := (-1)) d_W_force_35 rfl ?_
    cases hF
    exact vj_iret G0 ic_m1 d_W_force_36
  · rw [if_neg c2] at hF
    refine vj_iload_n G (p9 := 2) d_W_force_11 rfl rfl ?_
    obtain ⟨r3, M3, e3, hF⟩ := bnd_some hF
    refine vj_callS3 G (ct_W_isWord (gx_ij G) n x2 hx2 e3) q_772 cq_W_isWord rfl (by decide) (by decide) (Nat.le_of_ble_eq_true rfl) d_W_force_12 rfl (fun hr3 => ?_)
    refine vj_if_eq G (tgt := 35) d_W_force_15 (by decide) (ir_b hr3) (fun c4 => ?_) (fun c4 => ?_)
    · rw [if_pos c4] at hF
      refine vj_iconst G (v := (-1)) d_W_force_35 rfl ?_
      cases hF
      exact vj_iret G0 ic_m1 d_W_force_36
    · rw [if_neg c4] at hF
      refine vj_iload_n G (p9 := 2) d_W_force_18 rfl rfl ?_
      refine vj_iconst G (v := 4) d_W_force_19 rfl ?_
      refine vj_icmp_ne G (tgt := 37) d_W_force_20 (by decide) hx2 ic_4 (fun c5 => ?_) (fun c5 => ?_)
      · rw [if_pos c5] at hF
        exact wk_W_force_37 G0 n  x1 x2 x3 x4 hx1 hx2 hx3 hx4 _ hF
      · rw [if_neg c5] at hF
        refine vj_aload_n G (p9 := 0) d_W_force_23 rfl rfl ?_
        refine gfC_W_18 G d_W_force_24 ?_
        refine vj_iload G (p9 := 4) d_W_force_27 rfl ?_
        obtain ⟨r6, M6, e6, hF⟩ := bnd_some hF
        refine vj_callV3 G (ct_R_isShare (gx_ij G) n x4 hx4 e6) lkC_1 clC_7 rfl q_613 cq_R_isShare rfl (by decide) (by decide) (Nat.le_of_ble_eq_true rfl) d_W_force_29 rfl (fun hr6 => ?_)
        refine vj_if_ne G (tgt := 37) d_W_force_32 (by decide) (ir_b hr6) (fun c7 => ?_) (fun c7 => ?_)
        · rw [if_pos c7] at hF
          exact wk_W_force_37 G0 n  x1 x2 x3 x4 hx1 hx2 hx3 hx4 _ hF
        · rw [if_neg c7] at hF
          refine vj_iconst G (v := (-1)) d_W_force_35 rfl ?_
          cases hF
          exact vj_iret G0 ic_m1 d_W_force_36
set_option maxHeartbeats 4000000 in
set_option maxRecDepth 100000 in
theorem ct_W_why {w : Wd} (hij : ij LC w) (n : Nat) (x1 x2 x3 : Int) (hx1 : inR x1) (hx2 : inR x2) (hx3 : inR x3) {M : Mm} {r : Int} {M9 : Mm} (hF : f_W_why n x1 x2 x3 M = some (r, M9)) : Ct LC w y_W_why b_W_why 5 (some .int) 2 50 1 [.ref (wa w 0), .int (i32 x1), .int (i32 x2), .int (i32 x3)] M r M9 := by
  refine Ct.of hij KstC (by decide +kernel) (Nat.le_of_ble_eq_true rfl) (fun X G0 => ?_)
  have G := G0.1
  show VJ LC w X 5 1 r M9 M [(0, .ref (wa w 0)), (1, .int (i32 x1)), (2, .int (i32 x2)), (3, .int (i32 x3))] [] 0
  unfold f_W_why at hF
  refine vj_aload_n G (p9 := 0) d_W_why_0 rfl rfl ?_
  refine gfC_W_18 G d_W_why_1 ?_
  refine vj_iload_n G (p9 := 1) d_W_why_4 rfl rfl ?_
  obtain ⟨r1, M1, e1, hF⟩ := bnd_some hF
  refine vj_callV3 G (ct_R_isFirm (gx_ij G) n x1 hx1 e1) lkC_1 clC_7 rfl q_592 cq_R_isFirm rfl (by decide) (by decide) (Nat.le_of_ble_eq_true rfl) d_W_why_5 rfl (fun hr1 => ?_)
  refine vj_if_eq G (tgt := 18) d_W_why_8 (by decide) (ir_b hr1) (fun c2 => ?_) (fun c2 => ?_)
  · rw [if_pos c2] at hF
    refine vj_iconst G (v := (-1)) d_W_why_18 rfl ?_
    cases hF
    exact vj_iret G0 ic_m1 d_W_why_19
  · rw [if_neg c2] at hF
    refine vj_iload_n G (p9 := 2) d_W_why_11 rfl rfl ?_
    obtain ⟨r3, M3, e3, hF⟩ := bnd_some hF
    refine vj_callS3 G (ct_W_isWord (gx_ij G) n x2 hx2 e3) q_772 cq_W_isWord rfl (by decide) (by decide) (Nat.le_of_ble_eq_true rfl) d_W_why_12 rfl (fun hr3 => ?_)
    refine vj_if_ne G (tgt := 20) d_W_why_15 (by decide) (ir_b hr3) (fun c4 => ?_) (fun c4 => ?_)
    · rw [if_pos c4] at hF
      refine vj_iload_n G (p9 := 3) d_W_why_20 rfl rfl ?_
      obtain ⟨r5, M5, e5, hF⟩ := bnd_some hF
      refine vj_callS3 G (ct_W_isDay (gx_ij G) n x3 hx3 e5) q_639 cq_W_isDay rfl (by decide) (by decide) (Nat.le_of_ble_eq_true rfl) d_W_why_21 rfl (fun hr5 => ?_)
      refine vj_if_ne G (tgt := 30) d_W_why_24 (by decide) (ir_b hr5) (fun c6 => ?_) (fun c6 => ?_)
      · rw [if_pos c6] at hF
        refine vj_aload_n G (p9 := 0) d_W_why_30 rfl rfl ?_
        refine gfC_W_25 G d_W_why_31 ?_
        refine vj_iload_n G (p9 := 1) d_W_why_34 rfl rfl ?_
        refine vj_iload_n G (p9 := 2) d_W_why_35 rfl rfl ?_
        refine vj_iload_n G (p9 := 3) d_W_why_36 rfl rfl ?_
        obtain ⟨r7, M7, e7, hF⟩ := bnd_some hF
        refine vj_callV1 G (ct_C_inForce (gx_ij G) n x1 x2 x3 hx1 hx2 hx3 e7) lkC_2 clC_8 rfl q_831 cq_C_inForce rfl (by decide) (by decide) (Nat.le_of_ble_eq_true rfl) d_W_why_37 rfl (fun hr7 => ?_)
        refine vj_istore G (lv2 := [(4, .int (i32 r7)), (0, .ref (wa w 0)), (1, .int (i32 x1)), (2, .int (i32 x2)), (3, .int (i32 x3))]) d_W_why_40 (by decide) rfl ?_
        refine vj_iload G (p9 := 0) d_W_why_42 rfl ?_
        refine vj_if_ge G (tgt := 52) d_W_why_44 (by decide) hr7 (fun c8 => ?_) (fun c8 => ?_)
        · rw [if_pos c8] at hF
          refine vj_bipush G (v := 100) d_W_why_52 rfl ?_
          refine vj_iload G (p9 := 0) d_W_why_54 rfl ?_
          refine vj_bipush G (v := 6) d_W_why_56 rfl ?_
          refine vj_idiv G d_W_why_58 ic_6 (by decide) ?_
          refine vj_imul G d_W_why_59 ?_
          refine vj_iload G (p9 := 0) d_W_why_60 rfl ?_
          refine vj_bipush G (v := 6) d_W_why_62 rfl ?_
          refine vj_irem G d_W_why_64 ic_6 (by decide) ?_
          refine vj_iadd G d_W_why_65 ?_
          cases hF
          exact vj_iret G0 (ir_w _) d_W_why_66
        · rw [if_neg c8] at hF
          refine vj_bipush G (v := (-5)) d_W_why_47 rfl ?_
          refine vj_goto G (tgt := 66) d_W_why_49 (by decide) ?_
          cases hF
          exact vj_iret G0 ic_m5 d_W_why_66
      · rw [if_neg c6] at hF
        refine vj_bipush G (v := (-2)) d_W_why_27 rfl ?_
        cases hF
        exact vj_iret G0 ic_m2 d_W_why_29
    · rw [if_neg c4] at hF
      refine vj_iconst G (v := (-1)) d_W_why_18 rfl ?_
      cases hF
      exact vj_iret G0 ic_m1 d_W_why_19
set_option maxHeartbeats 4000000 in
set_option maxRecDepth 100000 in
theorem wk_U_bound_125 {w : Wd} {X : Cx} {r : Int} {M9 : Mm} (G0 : Gx LC w X "WhoRules$Rule" b_U_bound 6 1 22 none) (n : Nat) (s1 s2 : Int) (hs1 : inR s1) (hs2 : inR s2) (M : Mm) (hF : f_U_bound_125 n s1 s2 M = some (r, M9)) : VJ LC w X 6 0 r M9 M [] [.int (i32 s2), .int (i32 s1), .ref (wa w 44)] 125 := by
  have G := G0.1
  unfold f_U_bound_125 at hF
  obtain ⟨c1, hF⟩ := ck_some hF
  refine vj_iast G (x := s1) lkC_44 (by decide) (by decide) (by decide) c1 hs2 d_U_bound_125 ?_
  cases hF
  exact vj_vret G0 d_U_bound_126
set_option maxHeartbeats 4000000 in
set_option maxRecDepth 100000 in
theorem wk_U_bound_22 {w : Wd} {X : Cx} {r : Int} {M9 : Mm} (G0 : Gx LC w X "WhoRules$Rule" b_U_bound 6 1 22 none) (n : Nat) (k22 : Int → Int → Int → Int → Mm → Rr) (hk22 : ∀ (x1 x2 x3 x4 : Int) (hx1 : inR x1) (hx2 : inR x2) (hx3 : inR x3) (hx4 : inR x4) (M : Mm), k22 x1 x2 x3 x4 M = some (r, M9) → VJ LC w X 6 0 r M9 M [(0, .ref (wa w 3)), (1, .int (i32 x1)), (2, .int (i32 x2)), (3, .int (i32 x3)), (4, .int (i32 x4))] [] 22) (x1 x2 x3 x4 : Int) (hx1 : inR x1) (hx2 : inR x2) (hx3 : inR x3) (hx4 : inR x4) (M : Mm) (hF : f_U_bound_22 n k22 x1 x2 x3 x4 M = some (r, M9)) : VJ LC w X 6 0 r M9 M [(0, .ref (wa w 3)), (1, .int (i32 x1)), (2, .int (i32 x2)), (3, .int (i32 x3)), (4, .int (i32 x4))] [] 22 := by
  have G := G0.1
  unfold f_U_bound_22 at hF
  refine vj_iload G (p9 := 4) d_U_bound_22 rfl ?_
  refine vj_aload_n G (p9 := 0) d_U_bound_24 rfl rfl ?_
  refine gfC_U_46 G d_U_bound_25 ?_
  refine gfC_U_129 G d_U_bound_28 ?_
  refine vj_mr (fun hM1 => ?_)
  refine vj_icmp_ge G (tgt := 74) d_U_bound_31 (by decide) hx4 (mr_o hM1 lkC_1 flC_7_1) (fun c2 => ?_) (fun c2 => ?_)
  · rw [if_pos c2] at hF
    refine vj_aload_n G (p9 := 0) d_U_bound_74 rfl rfl ?_
    refine gfC_U_11 G d_U_bound_75 ?_
    refine vj_iload_n G (p9 := 1) d_U_bound_78 rfl rfl ?_
    obtain ⟨c3, hF⟩ := ck_some hF
    refine vj_aald5 G (x := x1) lkC_38 (by decide) c3 d_U_bound_79 ?_
    refine vj_iconst G (v := 0) d_U_bound_80 rfl ?_
    refine vj_iald G (x := 0) (lkC_r110 c3) (by decide) ⟨by decide, by decide⟩ d_U_bound_81 ?_
    refine vj_mr (fun hM4 => ?_)
    refine vj_istore G (lv2 := [(4, .int (i32 (M (110 + x1.toNat) (0 : Int).toNat))), (0, .ref (wa w 3)), (1, .int (i32 x1)), (2, .int (i32 x2)), (3, .int (i32 x3))]) d_U_bound_82 (by decide) rfl ?_
    refine vj_aload_n G (p9 := 1) d_U_bound_84 rfl rfl ?_
    refine gfC_U_50 G d_U_bound_85 ?_
    refine vj_iload G (p9 := 0) d_U_bound_88 rfl ?_
    refine vj_iconst G (v := 0) d_U_bound_90 rfl ?_
    obtain ⟨r5, M5, e5, hF⟩ := bnd_some hF
    refine vj_callV1 G (ct_C_secondOf (gx_ij G) n (M (110 + x1.toNat) (0 : Int).toNat) 0 (mr_a hM4 (lkC_r110 c3)) ic_0 e5) lkC_2 clC_8 rfl q_813 cq_C_secondOf rfl (by decide) (by decide) (Nat.le_of_ble_eq_true rfl) d_U_bound_91 rfl (fun hr5 => ?_)
    refine vj_istore G (lv2 := [(5, .int (i32 r5)), (4, .int (i32 (M (110 + x1.toNat) (0 : Int).toNat))), (0, .ref (wa w 3)), (1, .int (i32 x1)), (2, .int (i32 x2)), (3, .int (i32 x3))]) d_U_bound_94 (by decide) rfl ?_
    refine vj_aload_n G (p9 := 2) d_U_bound_96 rfl rfl ?_
    refine gfC_U_34 G d_U_bound_97 ?_
    refine vj_iload_n G (p9 := 3) d_U_bound_100 rfl rfl ?_
    refine vj_iload G (p9 := 0) d_U_bound_101 rfl ?_
    refine vj_if_le G (tgt := 124) d_U_bound_103 (by decide) hr5 (fun c6 => ?_) (fun c6 => ?_)
    · rw [if_pos c6] at hF
      refine vj_iconst G (v := 0) d_U_bound_124 rfl ?_
      refine vj_sub [] rfl ?_
      exact wk_U_bound_125 G0 n  x1 0 hx1 ic_0 _ hF
    · rw [if_neg c6] at hF
      refine vj_aload_n G (p9 := 2) d_U_bound_106 rfl rfl ?_
      refine gfC_U_50 G d_U_bound_107 ?_
      refine vj_iload G (p9 := 1) d_U_bound_110 rfl ?_
      refine vj_iconst G (v := 0) d_U_bound_112 rfl ?_
      obtain ⟨r7, M7, e7, hF⟩ := bnd_some hF
      refine vj_callV1 G (ct_C_firstOf (gx_ij G) n (M (110 + x1.toNat) (0 : Int).toNat) 0 (mr_a hM4 (lkC_r110 c3)) ic_0 e7) lkC_2 clC_8 rfl q_787 cq_C_firstOf rfl (by decide) (by decide) (Nat.le_of_ble_eq_true rfl) d_U_bound_113 rfl (fun hr7 => ?_)
      refine vj_iload_n G (p9 := 5) d_U_bound_116 rfl rfl ?_
      refine vj_imul G d_U_bound_117 ?_
      refine vj_iload G (p9 := 0) d_U_bound_118 rfl ?_
      obtain ⟨c8, hF⟩ := ck_some hF
      refine vj_idiv G d_U_bound_120 hr5 c8 ?_
      refine vj_goto G (tgt := 125) d_U_bound_121 (by decide) ?_
      refine vj_sub [] rfl ?_
      exact wk_U_bound_125 G0 n  x1 (idv (w32 (r7 * x3)) r5) hx1 (ir_dv _ _) _ hF
  · rw [if_neg c2] at hF
    refine vj_aload_n G (p9 := 0) d_U_bound_34 rfl rfl ?_
    refine gfC_U_28 G d_U_bound_35 ?_
    refine vj_iload_n G (p9 := 1) d_U_bound_38 rfl rfl ?_
    obtain ⟨c9, hF⟩ := ck_some hF
    refine vj_aald5 G (x := x1) lkC_42 (by decide) c9 d_U_bound_39 ?_
    refine vj_iload G (p9 := 4) d_U_bound_40 rfl ?_
    refine vj_aload_n G (p9 := 0) d_U_bound_42 rfl rfl ?_
    refine gfC_U_28 G d_U_bound_43 ?_
    refine vj_iload_n G (p9 := 1) d_U_bound_46 rfl rfl ?_
    obtain ⟨c10, hF⟩ := ck_some hF
    refine vj_aald5 G (x := x1) lkC_42 (by decide) c10 d_U_bound_47 ?_
    refine vj_iload G (p9 := 4) d_U_bound_48 rfl ?_
    obtain ⟨c11, hF⟩ := ck_some hF
    refine vj_iald G (x := x4) (lkC_r130 c10) (by decide) c11 d_U_bound_50 ?_
    refine vj_mr (fun hM12 => ?_)
    refine vj_iload_n G (p9 := 2) d_U_bound_51 rfl rfl ?_
    refine vj_mmin G (mr_a hM12 (lkC_r130 c10)) hx2 q_845 q_846 q_127 q_847 (by decide) (by decide) (Nat.le_of_ble_eq_true rfl) d_U_bound_52 ?_
    obtain ⟨c13, hF⟩ := ck_some hF
    refine vj_iast G (x := x4) (lkC_r130 c9) (by decide) (k9_130 c9) (kh_130 c9) c13 (ir_min (mr_a hM12 (lkC_r130 c10)) hx2) d_U_bound_55 ?_
    refine vj_iload_n G (p9 := 3) d_U_bound_56 rfl rfl ?_
    refine vj_aload_n G (p9 := 0) d_U_bound_57 rfl rfl ?_
    refine gfC_U_28 G d_U_bound_58 ?_
    refine vj_iload_n G (p9 := 1) d_U_bound_61 rfl rfl ?_
    obtain ⟨c14, hF⟩ := ck_some hF
    refine vj_aald5 G (x := x1) lkC_42 (by decide) c14 d_U_bound_62 ?_
    refine vj_iload G (p9 := 4) d_U_bound_63 rfl ?_
    obtain ⟨c15, hF⟩ := ck_some hF
    refine vj_iald G (x := x4) (lkC_r130 c14) (by decide) c15 d_U_bound_65 ?_
    refine vj_mr (fun hM16 => ?_)
    refine vj_iadd G d_U_bound_66 ?_
    refine vj_istore_n G (lv2 := [(3, .int (i32 (w32 (x3 + ((mset M (130 + x1.toNat) x4.toNat (min (M (130 + x1.toNat) x4.toNat) x2)) (130 + x1.toNat) x4.toNat))))), (0, .ref (wa w 3)), (1, .int (i32 x1)), (2, .int (i32 x2)), (4, .int (i32 x4))]) d_U_bound_67 rfl (by decide) rfl ?_
    refine vj_iinc G (p9 := 4) (n := 1) (lv2 := [(4, .int (i32 (w32 (x4 + 1)))), (3, .int (i32 (w32 (x3 + ((mset M (130 + x1.toNat) x4.toNat (min (M (130 + x1.toNat) x4.toNat) x2)) (130 + x1.toNat) x4.toNat))))), (0, .ref (wa w 3)), (1, .int (i32 x1)), (2, .int (i32 x2))]) d_U_bound_68 rfl (by decide) rfl ?_
    refine vj_goto G (tgt := 22) d_U_bound_71 (by decide) ?_
    refine vj_sub [2, 3, 4, 1, 0] rfl ?_
    exact hk22 x1 x2 (w32 (x3 + ((mset M (130 + x1.toNat) x4.toNat (min (M (130 + x1.toNat) x4.toNat) x2)) (130 + x1.toNat) x4.toNat))) (w32 (x4 + 1)) hx1 hx2 (ir_w _) (ir_w _) _ hF
set_option maxHeartbeats 4000000 in
set_option maxRecDepth 100000 in
theorem wl_U_bound_22 {w : Wd} {X : Cx} {r : Int} {M9 : Mm} (G0 : Gx LC w X "WhoRules$Rule" b_U_bound 6 1 22 none) (n : Nat) : ∀ (f : Nat) (x1 x2 x3 x4 : Int) (hx1 : inR x1) (hx2 : inR x2) (hx3 : inR x3) (hx4 : inR x4) (M : Mm), lp_U_bound_22 n f x1 x2 x3 x4 M = some (r, M9) → VJ LC w X 6 0 r M9 M [(0, .ref (wa w 3)), (1, .int (i32 x1)), (2, .int (i32 x2)), (3, .int (i32 x3)), (4, .int (i32 x4))] [] 22 := by
  intro f
  induction f with
  | zero => intro x1 x2 x3 x4 hx1 hx2 hx3 hx4 M hF; cases hF
  | succ f ih => intro x1 x2 x3 x4 hx1 hx2 hx3 hx4 M hF; exact wk_U_bound_22 G0 n (lp_U_bound_22 n f) ih x1 x2 x3 x4 hx1 hx2 hx3 hx4 M hF
set_option maxHeartbeats 4000000 in
set_option maxRecDepth 100000 in
theorem ct_U_bound {w : Wd} (hij : ij LC w) (n : Nat) (x1 : Int) (hx1 : inR x1) {M : Mm} {r : Int} {M9 : Mm} (hF : f_U_bound n x1 M = some (r, M9)) : Ct LC w y_U_bound b_U_bound 6 none 1 22 0 [.ref (wa w 3), .int (i32 x1)] M r M9 := by
  refine Ct.of hij KstC (by decide +kernel) (Nat.le_of_ble_eq_true rfl) (fun X G0 => ?_)
  have G := G0.1
  show VJ LC w X 6 0 r M9 M [(0, .ref (wa w 3)), (1, .int (i32 x1))] [] 0
  unfold f_U_bound at hF
  refine vj_aload_n G (p9 := 0) d_U_bound_0 rfl rfl ?_
  refine gfC_U_50 G d_U_bound_1 ?_
  refine vj_aload_n G (p9 := 0) d_U_bound_4 rfl rfl ?_
  refine gfC_U_11 G d_U_bound_5 ?_
  refine vj_iload_n G (p9 := 1) d_U_bound_8 rfl rfl ?_
  obtain ⟨c1, hF⟩ := ck_some hF
  refine vj_aald5 G (x := x1) lkC_38 (by decide) c1 d_U_bound_9 ?_
  refine vj_iconst G (v := 1) d_U_bound_10 rfl ?_
  refine vj_iald G (x := 1) (lkC_r110 c1) (by decide) ⟨by decide, by decide⟩ d_U_bound_11 ?_
  refine vj_mr (fun hM2 => ?_)
  refine vj_iconst G (v := 1) d_U_bound_12 rfl ?_
  obtain ⟨r3, M3, e3, hF⟩ := bnd_some hF
  refine vj_callV1 G (ct_C_firstOf (gx_ij G) n (M (110 + x1.toNat) (1 : Int).toNat) 1 (mr_a hM2 (lkC_r110 c1)) ic_1 e3) lkC_2 clC_8 rfl q_787 cq_C_firstOf rfl (by decide) (by decide) (Nat.le_of_ble_eq_true rfl) d_U_bound_13 rfl (fun hr3 => ?_)
  refine vj_istore_n G (lv2 := [(2, .int (i32 r3)), (0, .ref (wa w 3)), (1, .int (i32 x1))]) d_U_bound_16 rfl (by decide) rfl ?_
  refine vj_iconst G (v := 0) d_U_bound_17 rfl ?_
  refine vj_istore_n G (lv2 := [(3, .int (i32 0)), (2, .int (i32 r3)), (0, .ref (wa w 3)), (1, .int (i32 x1))]) d_U_bound_18 rfl (by decide) rfl ?_
  refine vj_iconst G (v := 0) d_U_bound_19 rfl ?_
  refine vj_istore G (lv2 := [(4, .int (i32 0)), (3, .int (i32 0)), (2, .int (i32 r3)), (0, .ref (wa w 3)), (1, .int (i32 x1))]) d_U_bound_20 (by decide) rfl ?_
  refine vj_sub [3, 4, 2, 1, 0] rfl ?_
  exact wl_U_bound_22 G0 n  n x1 r3 0 0 hx1 hr3 ic_0 ic_0 _ hF
set_option maxHeartbeats 4000000 in
set_option maxRecDepth 100000 in
theorem wk_U_tally_97 {w : Wd} {X : Cx} {r : Int} {M9 : Mm} (G0 : Gx LC w X "WhoRules$Rule" b_U_tally 2 2 47 none) (n : Nat) (k97 : Int → Mm → Rr) (hk97 : ∀ (x1 : Int) (hx1 : inR x1) (M : Mm), k97 x1 M = some (r, M9) → VJ LC w X 2 0 r M9 M [(0, .ref (wa w 3)), (1, .int (i32 x1))] [] 97) (x1 : Int) (hx1 : inR x1) (M : Mm) (hF : f_U_tally_97 n k97 x1 M = some (r, M9)) : VJ LC w X 2 0 r M9 M [(0, .ref (wa w 3)), (1, .int (i32 x1))] [] 97 := by
  have G := G0.1
  unfold f_U_tally_97 at hF
  refine vj_iload_n G (p9 := 1) d_U_tally_97 rfl rfl ?_
  refine vj_aload_n G (p9 := 0) d_U_tally_98 rfl rfl ?_
  refine gfC_U_46 G d_U_tally_99 ?_
  refine gfC_U_58 G d_U_tally_102 ?_
  refine vj_mr (fun hM1 => ?_)
  refine vj_icmp_ge G (tgt := 127) d_U_tally_105 (by decide) hx1 (mr_o hM1 lkC_1 flC_7_2) (fun c2 => ?_) (fun c2 => ?_)
  · rw [if_pos c2] at hF
    cases hF
    exact vj_vret G0 d_U_tally_127
  · rw [if_neg c2] at hF
    refine vj_aload_n G (p9 := 0) d_U_tally_108 rfl rfl ?_
    refine vj_aload_n G (p9 := 0) d_U_tally_109 rfl rfl ?_
    refine gfC_U_46 G d_U_tally_110 ?_
    refine gfC_U_63 G d_U_tally_113 ?_
    refine vj_iload_n G (p9 := 1) d_U_tally_116 rfl rfl ?_
    obtain ⟨c3, hF⟩ := ck_some hF
    refine vj_iald G (x := x1) lkC_19 (by decide) c3 d_U_tally_117 ?_
    refine vj_mr (fun hM4 => ?_)
    obtain ⟨r5, M5, e5, hF⟩ := bnd_some hF
    refine vj_callV0 G (ct_U_bound (gx_ij G) n (M 19 x1.toNat) (mr_a hM4 lkC_19) e5) lkC_3 clC_9 rfl q_841 cq_U_bound rfl (by decide) (by decide) (Nat.le_of_ble_eq_true rfl) d_U_tally_118 rfl (fun hr5 => ?_)
    refine vj_iinc G (p9 := 1) (n := 1) (lv2 := [(1, .int (i32 (w32 (x1 + 1)))), (0, .ref (wa w 3))]) d_U_tally_121 rfl (by decide) rfl ?_
    refine vj_goto G (tgt := 97) d_U_tally_124 (by decide) ?_
    refine vj_sub [1, 0] rfl ?_
    exact hk97 (w32 (x1 + 1)) (ir_w _) _ hF
set_option maxHeartbeats 4000000 in
set_option maxRecDepth 100000 in
theorem wl_U_tally_97 {w : Wd} {X : Cx} {r : Int} {M9 : Mm} (G0 : Gx LC w X "WhoRules$Rule" b_U_tally 2 2 47 none) (n : Nat) : ∀ (f : Nat) (x1 : Int) (hx1 : inR x1) (M : Mm), lp_U_tally_97 n f x1 M = some (r, M9) → VJ LC w X 2 0 r M9 M [(0, .ref (wa w 3)), (1, .int (i32 x1))] [] 97 := by
  intro f
  induction f with
  | zero => intro x1 hx1 M hF; cases hF
  | succ f ih => intro x1 hx1 M hF; exact wk_U_tally_97 G0 n (lp_U_tally_97 n f) ih x1 hx1 M hF
set_option maxHeartbeats 4000000 in
set_option maxRecDepth 100000 in
theorem wk_U_tally_89 {w : Wd} {X : Cx} {r : Int} {M9 : Mm} (G0 : Gx LC w X "WhoRules$Rule" b_U_tally 2 2 47 none) (n : Nat) (k39 : Int → Mm → Rr) (hk39 : ∀ (x1 : Int) (hx1 : inR x1) (M : Mm), k39 x1 M = some (r, M9) → VJ LC w X 2 0 r M9 M [(0, .ref (wa w 3)), (1, .int (i32 x1))] [] 39) (x1 : Int) (hx1 : inR x1) (M : Mm) (hF : f_U_tally_89 n k39 x1 M = some (r, M9)) : VJ LC w X 2 0 r M9 M [(0, .ref (wa w 3)), (1, .int (i32 x1))] [] 89 := by
  have G := G0.1
  unfold f_U_tally_89 at hF
  refine vj_iinc G (p9 := 1) (n := 1) (lv2 := [(1, .int (i32 (w32 (x1 + 1)))), (0, .ref (wa w 3))]) d_U_tally_89 rfl (by decide) rfl ?_
  refine vj_goto G (tgt := 39) d_U_tally_92 (by decide) ?_
  refine vj_sub [1, 0] rfl ?_
  exact hk39 (w32 (x1 + 1)) (ir_w _) _ hF
set_option maxHeartbeats 4000000 in
set_option maxRecDepth 100000 in
theorem wk_U_tally_39 {w : Wd} {X : Cx} {r : Int} {M9 : Mm} (G0 : Gx LC w X "WhoRules$Rule" b_U_tally 2 2 47 none) (n : Nat) (k39 : Int → Mm → Rr) (hk39 : ∀ (x1 : Int) (hx1 : inR x1) (M : Mm), k39 x1 M = some (r, M9) → VJ LC w X 2 0 r M9 M [(0, .ref (wa w 3)), (1, .int (i32 x1))] [] 39) (x1 : Int) (hx1 : inR x1) (M : Mm) (hF : f_U_tally_39 n k39 x1 M = some (r, M9)) : VJ LC w X 2 0 r M9 M [(0, .ref (wa w 3)), (1, .int (i32 x1))] [] 39 := by
  have G := G0.1
  unfold f_U_tally_39 at hF
  refine vj_iload_n G (p9 := 1) d_U_tally_39 rfl rfl ?_
  refine vj_aload_n G (p9 := 0) d_U_tally_40 rfl rfl ?_
  refine gfC_U_46 G d_U_tally_41 ?_
  refine gfC_U_82 G d_U_tally_44 ?_
  refine vj_mr (fun hM1 => ?_)
  refine vj_icmp_ge G (tgt := 95) d_U_tally_47 (by decide) hx1 (mr_o hM1 lkC_1 flC_7_4) (fun c2 => ?_) (fun c2 => ?_)
  · rw [if_pos c2] at hF
    refine vj_iconst G (v := 0) d_U_tally_95 rfl ?_
    refine vj_istore_n G (lv2 := [(1, .int (i32 0)), (0, .ref (wa w 3))]) d_U_tally_96 rfl (by decide) rfl ?_
    refine vj_sub [1, 0] rfl ?_
    exact wl_U_tally_97 G0 n  n 0 ic_0 _ hF
  · rw [if_neg c2] at hF
    refine vj_aload_n G (p9 := 0) d_U_tally_50 rfl rfl ?_
    refine gfC_U_16 G d_U_tally_51 ?_
    refine vj_iload_n G (p9 := 1) d_U_tally_54 rfl rfl ?_
    obtain ⟨c3, hF⟩ := ck_some hF
    refine vj_iald G (x := x1) lkC_39 (by decide) c3 d_U_tally_55 ?_
    refine vj_mr (fun hM4 => ?_)
    refine vj_if_lt G (tgt := 89) d_U_tally_56 (by decide) (mr_a hM4 lkC_39) (fun c5 => ?_) (fun c5 => ?_)
    · rw [if_pos c5] at hF
      exact wk_U_tally_89 G0 n k39 hk39 x1 hx1 _ hF
    · rw [if_neg c5] at hF
      refine vj_aload_n G (p9 := 0) d_U_tally_59 rfl rfl ?_
      refine gfC_U_28 G d_U_tally_60 ?_
      refine vj_aload_n G (p9 := 0) d_U_tally_63 rfl rfl ?_
      refine gfC_U_46 G d_U_tally_64 ?_
      refine gfC_U_95 G d_U_tally_67 ?_
      refine vj_iload_n G (p9 := 1) d_U_tally_70 rfl rfl ?_
      obtain ⟨c6, hF⟩ := ck_some hF
      refine vj_iald G (x := x1) lkC_21 (by decide) c6 d_U_tally_71 ?_
      refine vj_mr (fun hM7 => ?_)
      obtain ⟨c8, hF⟩ := ck_some hF
      refine vj_aald5 G (x := (M 21 x1.toNat)) lkC_42 (by decide) c8 d_U_tally_72 ?_
      refine vj_aload_n G (p9 := 0) d_U_tally_73 rfl rfl ?_
      refine gfC_U_16 G d_U_tally_74 ?_
      refine vj_iload_n G (p9 := 1) d_U_tally_77 rfl rfl ?_
      obtain ⟨c9, hF⟩ := ck_some hF
      refine vj_iald G (x := x1) lkC_39 (by decide) c9 d_U_tally_78 ?_
      refine vj_dup2_11 G d_U_tally_79 rfl rfl ?_
      obtain ⟨c10, hF⟩ := ck_some hF
      refine vj_iald G (x := (M 39 x1.toNat)) (lkC_r130 c8) (by decide) c10 d_U_tally_80 ?_
      refine vj_aload_n G (p9 := 0) d_U_tally_81 rfl rfl ?_
      refine gfC_U_20 G d_U_tally_82 ?_
      refine vj_iload_n G (p9 := 1) d_U_tally_85 rfl rfl ?_
      obtain ⟨c11, hF⟩ := ck_some hF
      refine vj_iald G (x := x1) lkC_40 (by decide) c11 d_U_tally_86 ?_
      refine vj_iadd G d_U_tally_87 ?_
      obtain ⟨c12, hF⟩ := ck_some hF
      refine vj_iast G (x := (M 39 x1.toNat)) (lkC_r130 c8) (by decide) (k9_130 c8) (kh_130 c8) c12 (ir_w _) d_U_tally_88 ?_
      exact wk_U_tally_89 G0 n k39 hk39 x1 hx1 _ hF
set_option maxHeartbeats 4000000 in
set_option maxRecDepth 100000 in
theorem wl_U_tally_39 {w : Wd} {X : Cx} {r : Int} {M9 : Mm} (G0 : Gx LC w X "WhoRules$Rule" b_U_tally 2 2 47 none) (n : Nat) : ∀ (f : Nat) (x1 : Int) (hx1 : inR x1) (M : Mm), lp_U_tally_39 n f x1 M = some (r, M9) → VJ LC w X 2 0 r M9 M [(0, .ref (wa w 3)), (1, .int (i32 x1))] [] 39 := by
  intro f
  induction f with
  | zero => intro x1 hx1 M hF; cases hF
  | succ f ih => intro x1 hx1 M hF; exact wk_U_tally_39 G0 n (lp_U_tally_39 n f) ih x1 hx1 M hF
set_option maxHeartbeats 4000000 in
set_option maxRecDepth 100000 in
theorem wk_U_tally_2 {w : Wd} {X : Cx} {r : Int} {M9 : Mm} (G0 : Gx LC w X "WhoRules$Rule" b_U_tally 2 2 47 none) (n : Nat) (k2 : Int → Mm → Rr) (hk2 : ∀ (x1 : Int) (hx1 : inR x1) (M : Mm), k2 x1 M = some (r, M9) → VJ LC w X 2 0 r M9 M [(0, .ref (wa w 3)), (1, .int (i32 x1))] [] 2) (x1 : Int) (hx1 : inR x1) (M : Mm) (hF : f_U_tally_2 n k2 x1 M = some (r, M9)) : VJ LC w X 2 0 r M9 M [(0, .ref (wa w 3)), (1, .int (i32 x1))] [] 2 := by
  have G := G0.1
  unfold f_U_tally_2 at hF
  refine vj_iload_n G (p9 := 1) d_U_tally_2 rfl rfl ?_
  refine vj_aload_n G (p9 := 0) d_U_tally_3 rfl rfl ?_
  refine gfC_U_46 G d_U_tally_4 ?_
  refine gfC_U_58 G d_U_tally_7 ?_
  refine vj_mr (fun hM1 => ?_)
  refine vj_icmp_ge G (tgt := 37) d_U_tally_10 (by decide) hx1 (mr_o hM1 lkC_1 flC_7_2) (fun c2 => ?_) (fun c2 => ?_)
  · rw [if_pos c2] at hF
    refine vj_iconst G (v := 0) d_U_tally_37 rfl ?_
    refine vj_istore_n G (lv2 := [(1, .int (i32 0)), (0, .ref (wa w 3))]) d_U_tally_38 rfl (by decide) rfl ?_
    refine vj_sub [1, 0] rfl ?_
    exact wl_U_tally_39 G0 n  n 0 ic_0 _ hF
  · rw [if_neg c2] at hF
    refine vj_aload_n G (p9 := 0) d_U_tally_13 rfl rfl ?_
    refine gfC_U_28 G d_U_tally_14 ?_
    refine vj_aload_n G (p9 := 0) d_U_tally_17 rfl rfl ?_
    refine gfC_U_46 G d_U_tally_18 ?_
    refine gfC_U_63 G d_U_tally_21 ?_
    refine vj_iload_n G (p9 := 1) d_U_tally_24 rfl rfl ?_
    obtain ⟨c3, hF⟩ := ck_some hF
    refine vj_iald G (x := x1) lkC_19 (by decide) c3 d_U_tally_25 ?_
    refine vj_mr (fun hM4 => ?_)
    obtain ⟨c5, hF⟩ := ck_some hF
    refine vj_aald5 G (x := (M 19 x1.toNat)) lkC_42 (by decide) c5 d_U_tally_26 ?_
    refine vj_iconst G (v := 0) d_U_tally_27 rfl ?_
    refine vj_fillI G (lkC_r130 c5) (by decide) (k9_130 c5) (kh_130 c5) q_840 ic_0 (by decide) (by decide) (by decide) d_U_tally_28 ?_
    refine vj_iinc G (p9 := 1) (n := 1) (lv2 := [(1, .int (i32 (w32 (x1 + 1)))), (0, .ref (wa w 3))]) d_U_tally_31 rfl (by decide) rfl ?_
    refine vj_goto G (tgt := 2) d_U_tally_34 (by decide) ?_
    refine vj_sub [1, 0] rfl ?_
    exact hk2 (w32 (x1 + 1)) (ir_w _) _ hF
set_option maxHeartbeats 4000000 in
set_option maxRecDepth 100000 in
theorem wl_U_tally_2 {w : Wd} {X : Cx} {r : Int} {M9 : Mm} (G0 : Gx LC w X "WhoRules$Rule" b_U_tally 2 2 47 none) (n : Nat) : ∀ (f : Nat) (x1 : Int) (hx1 : inR x1) (M : Mm), lp_U_tally_2 n f x1 M = some (r, M9) → VJ LC w X 2 0 r M9 M [(0, .ref (wa w 3)), (1, .int (i32 x1))] [] 2 := by
  intro f
  induction f with
  | zero => intro x1 hx1 M hF; cases hF
  | succ f ih => intro x1 hx1 M hF; exact wk_U_tally_2 G0 n (lp_U_tally_2 n f) ih x1 hx1 M hF
set_option maxHeartbeats 4000000 in
set_option maxRecDepth 100000 in
theorem ct_U_tally {w : Wd} (hij : ij LC w) (n : Nat) {M : Mm} {r : Int} {M9 : Mm} (hF : f_U_tally n  M = some (r, M9)) : Ct LC w y_U_tally b_U_tally 2 none 2 47 0 [.ref (wa w 3)] M r M9 := by
  refine Ct.of hij KstC (by decide +kernel) (Nat.le_of_ble_eq_true rfl) (fun X G0 => ?_)
  have G := G0.1
  show VJ LC w X 2 0 r M9 M [(0, .ref (wa w 3))] [] 0
  unfold f_U_tally at hF
  refine vj_iconst G (v := 0) d_U_tally_0 rfl ?_
  refine vj_istore_n G (lv2 := [(1, .int (i32 0)), (0, .ref (wa w 3))]) d_U_tally_1 rfl (by decide) rfl ?_
  refine vj_sub [1, 0] rfl ?_
  exact wl_U_tally_2 G0 n  n 0 ic_0 _ hF
set_option maxHeartbeats 4000000 in
set_option maxRecDepth 100000 in
theorem ct_W_votes {w : Wd} (hij : ij LC w) (n : Nat) (x1 x2 x3 : Int) (hx1 : inR x1) (hx2 : inR x2) (hx3 : inR x3) {M : Mm} {r : Int} {M9 : Mm} (hF : f_W_votes n x1 x2 x3 M = some (r, M9)) : Ct LC w y_W_votes b_W_votes 4 (some .int) 5 125 1 [.ref (wa w 0), .int (i32 x1), .int (i32 x2), .int (i32 x3)] M r M9 := by
  refine Ct.of hij KstC (by decide +kernel) (Nat.le_of_ble_eq_true rfl) (fun X G0 => ?_)
  have G := G0.1
  show VJ LC w X 4 1 r M9 M [(0, .ref (wa w 0)), (1, .int (i32 x1)), (2, .int (i32 x2)), (3, .int (i32 x3))] [] 0
  unfold f_W_votes at hF
  refine vj_aload_n G (p9 := 0) d_W_votes_0 rfl rfl ?_
  refine gfC_W_18 G d_W_votes_1 ?_
  refine vj_iload_n G (p9 := 1) d_W_votes_4 rfl rfl ?_
  obtain ⟨r1, M1, e1, hF⟩ := bnd_some hF
  refine vj_callV3 G (ct_R_isFirm (gx_ij G) n x1 hx1 e1) lkC_1 clC_7 rfl q_592 cq_R_isFirm rfl (by decide) (by decide) (Nat.le_of_ble_eq_true rfl) d_W_votes_5 rfl (fun hr1 => ?_)
  refine vj_if_eq G (tgt := 29) d_W_votes_8 (by decide) (ir_b hr1) (fun c2 => ?_) (fun c2 => ?_)
  · rw [if_pos c2] at hF
    refine vj_iconst G (v := (-1)) d_W_votes_29 rfl ?_
    cases hF
    exact vj_iret G0 ic_m1 d_W_votes_30
  · rw [if_neg c2] at hF
    refine vj_aload_n G (p9 := 0) d_W_votes_11 rfl rfl ?_
    refine gfC_W_18 G d_W_votes_12 ?_
    refine vj_iload_n G (p9 := 2) d_W_votes_15 rfl rfl ?_
    obtain ⟨r3, M3, e3, hF⟩ := bnd_some hF
    refine vj_callV3 G (ct_R_isHolder (gx_ij G) n x2 hx2 e3) lkC_1 clC_7 rfl q_596 cq_R_isHolder rfl (by decide) (by decide) (Nat.le_of_ble_eq_true rfl) d_W_votes_16 rfl (fun hr3 => ?_)
    refine vj_if_eq G (tgt := 29) d_W_votes_19 (by decide) (ir_b hr3) (fun c4 => ?_) (fun c4 => ?_)
    · rw [if_pos c4] at hF
      refine vj_iconst G (v := (-1)) d_W_votes_29 rfl ?_
      cases hF
      exact vj_iret G0 ic_m1 d_W_votes_30
    · rw [if_neg c4] at hF
      refine vj_iload_n G (p9 := 3) d_W_votes_22 rfl rfl ?_
      obtain ⟨r5, M5, e5, hF⟩ := bnd_some hF
      refine vj_callS3 G (ct_W_isDay (gx_ij G) n x3 hx3 e5) q_639 cq_W_isDay rfl (by decide) (by decide) (Nat.le_of_ble_eq_true rfl) d_W_votes_23 rfl (fun hr5 => ?_)
      refine vj_if_ne G (tgt := 31) d_W_votes_26 (by decide) (ir_b hr5) (fun c6 => ?_) (fun c6 => ?_)
      · rw [if_pos c6] at hF
        refine vj_aload_n G (p9 := 0) d_W_votes_31 rfl rfl ?_
        refine gfC_W_34 G d_W_votes_32 ?_
        refine vj_iload_n G (p9 := 3) d_W_votes_35 rfl rfl ?_
        obtain ⟨r7, M7, e7, hF⟩ := bnd_some hF
        refine vj_callV0 G (ct_U_look (gx_ij G) n x3 hx3 e7) lkC_3 clC_9 rfl q_775 cq_U_look rfl (by decide) (by decide) (Nat.le_of_ble_eq_true rfl) d_W_votes_36 rfl (fun hr7 => ?_)
        refine vj_aload_n G (p9 := 0) d_W_votes_39 rfl rfl ?_
        refine gfC_W_34 G d_W_votes_40 ?_
        obtain ⟨r8, M8, e8, hF⟩ := bnd_some hF
        refine vj_callV0 G (ct_U_tally (gx_ij G) n   e8) lkC_3 clC_9 rfl q_836 cq_U_tally rfl (by decide) (by decide) (Nat.le_of_ble_eq_true rfl) d_W_votes_43 rfl (fun hr8 => ?_)
        refine vj_aload_n G (p9 := 0) d_W_votes_46 rfl rfl ?_
        refine gfC_W_34 G d_W_votes_47 ?_
        refine gfC_W_178 G d_W_votes_50 ?_
        refine vj_iload_n G (p9 := 1) d_W_votes_53 rfl rfl ?_
        obtain ⟨c9, hF⟩ := ck_some hF
        refine vj_aald5 G (x := x1) lkC_42 (by decide) c9 d_W_votes_54 ?_
        refine vj_iload_n G (p9 := 2) d_W_votes_55 rfl rfl ?_
        obtain ⟨c10, hF⟩ := ck_some hF
        refine vj_iald G (x := x2) (lkC_r130 c9) (by decide) c10 d_W_votes_56 ?_
        refine vj_mr (fun hM11 => ?_)
        cases hF
        exact vj_iret G0 (mr_a hM11 (lkC_r130 c9)) d_W_votes_57
      · rw [if_neg c6] at hF
        refine vj_iconst G (v := (-1)) d_W_votes_29 rfl ?_
        cases hF
        exact vj_iret G0 ic_m1 d_W_votes_30
set_option maxHeartbeats 4000000 in
set_option maxRecDepth 100000 in
theorem ct_R_isSet {w : Wd} (hij : ij LC w) (n : Nat) (x1 : Int) (hx1 : inR x1) {M : Mm} {r : Int} {M9 : Mm} (hF : f_R_isSet n x1 M = some (r, M9)) : Ct LC w y_R_isSet b_R_isSet 2 (some .boolean) 0 0 3 [.ref (wa w 1), .int (i32 x1)] M r M9 := by
  refine Ct.of hij KstC (by decide +kernel) (Nat.le_of_ble_eq_true rfl) (fun X G0 => ?_)
  have G := G0.1
  show VJ LC w X 2 3 r M9 M [(0, .ref (wa w 1)), (1, .int (i32 x1))] [] 0
  unfold f_R_isSet at hF
  refine vj_iload_n G (p9 := 1) d_R_isSet_0 rfl rfl ?_
  refine vj_aload_n G (p9 := 0) d_R_isSet_1 rfl rfl ?_
  refine gfC_R_57 G d_R_isSet_2 ?_
  refine vj_mr (fun hM1 => ?_)
  refine vj_iushr G d_R_isSet_5 ?_
  refine vj_if_ne G (tgt := 13) d_R_isSet_6 (by decide) (ir_su _ _) (fun c2 => ?_) (fun c2 => ?_)
  · rw [if_pos c2] at hF
    refine vj_iconst G (v := 0) d_R_isSet_13 rfl ?_
    cases hF
    exact vj_zret G0 (Or.inl rfl) d_R_isSet_14
  · rw [if_neg c2] at hF
    refine vj_iconst G (v := 1) d_R_isSet_9 rfl ?_
    refine vj_goto G (tgt := 14) d_R_isSet_10 (by decide) ?_
    cases hF
    exact vj_zret G0 (Or.inr rfl) d_R_isSet_14
set_option maxHeartbeats 4000000 in
set_option maxRecDepth 100000 in
theorem wk_U_carriedBySet_86 {w : Wd} {X : Cx} {r : Int} {M9 : Mm} (G0 : Gx LC w X "WhoRules$Rule" b_U_carriedBySet 5 0 0 (some .boolean)) (n : Nat) (M : Mm) (hF : f_U_carriedBySet_86 n  M = some (r, M9)) : VJ LC w X 5 3 r M9 M [] [] 86 := by
  have G := G0.1
  unfold f_U_carriedBySet_86 at hF
  refine vj_iconst G (v := 0) d_U_carriedBySet_86 rfl ?_
  cases hF
  exact vj_zret G0 (Or.inl rfl) d_U_carriedBySet_87
set_option maxHeartbeats 4000000 in
set_option maxRecDepth 100000 in
theorem wk_U_carriedBySet_41 {w : Wd} {X : Cx} {r : Int} {M9 : Mm} (G0 : Gx LC w X "WhoRules$Rule" b_U_carriedBySet 5 0 0 (some .boolean)) (n : Nat) (k5 : Int → Int → Int → Int → Mm → Rr) (hk5 : ∀ (x1 x2 x3 x4 : Int) (hx1 : inR x1) (hx2 : inR x2) (hx3 : inR x3) (hx4 : inR x4) (M : Mm), k5 x1 x2 x3 x4 M = some (r, M9) → VJ LC w X 5 3 r M9 M [(0, .ref (wa w 3)), (1, .int (i32 x1)), (2, .int (i32 x2)), (3, .int (i32 x3)), (4, .int (i32 x4))] [] 5) (x1 x2 x4 s0 s1 : Int) (hx1 : inR x1) (hx2 : inR x2) (hx4 : inR x4) (hs0 : inR s0) (hs1 : inR s1) (M : Mm) (hF : f_U_carriedBySet_41 n k5 x1 x2 x4 s0 s1 M = some (r, M9)) : VJ LC w X 5 3 r M9 M [(0, .ref (wa w 3)), (1, .int (i32 x1)), (2, .int (i32 x2)), (4, .int (i32 x4))] [.int (i32 s1), .int (i32 s0)] 41 := by
  have G := G0.1
  unfold f_U_carriedBySet_41 at hF
  refine vj_iadd G d_U_carriedBySet_41 ?_
  refine vj_istore_n G (lv2 := [(3, .int (i32 (w32 (s0 + s1)))), (0, .ref (wa w 3)), (1, .int (i32 x1)), (2, .int (i32 x2)), (4, .int (i32 x4))]) d_U_carriedBySet_42 rfl (by decide) rfl ?_
  refine vj_iinc G (p9 := 4) (n := 1) (lv2 := [(4, .int (i32 (w32 (x4 + 1)))), (3, .int (i32 (w32 (s0 + s1)))), (0, .ref (wa w 3)), (1, .int (i32 x1)), (2, .int (i32 x2))]) d_U_carriedBySet_43 rfl (by decide) rfl ?_
  refine vj_goto G (tgt := 5) d_U_carriedBySet_46 (by decide) ?_
  refine vj_sub [2, 3, 4, 1, 0] rfl ?_
  exact hk5 x1 x2 (w32 (s0 + s1)) (w32 (x4 + 1)) hx1 hx2 (ir_w _) (ir_w _) _ hF
set_option maxHeartbeats 4000000 in
set_option maxRecDepth 100000 in
theorem wk_U_carriedBySet_5 {w : Wd} {X : Cx} {r : Int} {M9 : Mm} (G0 : Gx LC w X "WhoRules$Rule" b_U_carriedBySet 5 0 0 (some .boolean)) (n : Nat) (k5 : Int → Int → Int → Int → Mm → Rr) (hk5 : ∀ (x1 x2 x3 x4 : Int) (hx1 : inR x1) (hx2 : inR x2) (hx3 : inR x3) (hx4 : inR x4) (M : Mm), k5 x1 x2 x3 x4 M = some (r, M9) → VJ LC w X 5 3 r M9 M [(0, .ref (wa w 3)), (1, .int (i32 x1)), (2, .int (i32 x2)), (3, .int (i32 x3)), (4, .int (i32 x4))] [] 5) (x1 x2 x3 x4 : Int) (hx1 : inR x1) (hx2 : inR x2) (hx3 : inR x3) (hx4 : inR x4) (M : Mm) (hF : f_U_carriedBySet_5 n k5 x1 x2 x3 x4 M = some (r, M9)) : VJ LC w X 5 3 r M9 M [(0, .ref (wa w 3)), (1, .int (i32 x1)), (2, .int (i32 x2)), (3, .int (i32 x3)), (4, .int (i32 x4))] [] 5 := by
  have G := G0.1
  unfold f_U_carriedBySet_5 at hF
  refine vj_iload G (p9 := 4) d_U_carriedBySet_5 rfl ?_
  refine vj_aload_n G (p9 := 0) d_U_carriedBySet_7 rfl rfl ?_
  refine gfC_U_46 G d_U_carriedBySet_8 ?_
  refine gfC_U_129 G d_U_carriedBySet_11 ?_
  refine vj_mr (fun hM1 => ?_)
  refine vj_icmp_ge G (tgt := 49) d_U_carriedBySet_14 (by decide) hx4 (mr_o hM1 lkC_1 flC_7_1) (fun c2 => ?_) (fun c2 => ?_)
  · rw [if_pos c2] at hF
    refine vj_iload_n G (p9 := 3) d_U_carriedBySet_49 rfl rfl ?_
    refine vj_aload_n G (p9 := 0) d_U_carriedBySet_50 rfl rfl ?_
    refine gfC_U_34 G d_U_carriedBySet_51 ?_
    refine vj_iload_n G (p9 := 1) d_U_carriedBySet_54 rfl rfl ?_
    obtain ⟨c3, hF⟩ := ck_some hF
    refine vj_iald G (x := x1) lkC_44 (by decide) c3 d_U_carriedBySet_55 ?_
    refine vj_mr (fun hM4 => ?_)
    refine vj_icmp_le G (tgt := 86) d_U_carriedBySet_56 (by decide) hx3 (mr_a hM4 lkC_44) (fun c5 => ?_) (fun c5 => ?_)
    · rw [if_pos c5] at hF
      refine vj_sub [] rfl ?_
      exact wk_U_carriedBySet_86 G0 n    _ hF
    · rw [if_neg c5] at hF
      refine vj_aload_n G (p9 := 0) d_U_carriedBySet_59 rfl rfl ?_
      refine gfC_U_31 G d_U_carriedBySet_60 ?_
      refine vj_iload_n G (p9 := 1) d_U_carriedBySet_63 rfl rfl ?_
      obtain ⟨c6, hF⟩ := ck_some hF
      refine vj_iald G (x := x1) lkC_43 (by decide) c6 d_U_carriedBySet_64 ?_
      refine vj_mr (fun hM7 => ?_)
      refine vj_if_lt G (tgt := 82) d_U_carriedBySet_65 (by decide) (mr_a hM7 lkC_43) (fun c8 => ?_) (fun c8 => ?_)
      · rw [if_pos c8] at hF
        refine vj_iconst G (v := 1) d_U_carriedBySet_82 rfl ?_
        refine vj_goto G (tgt := 87) d_U_carriedBySet_83 (by decide) ?_
        cases hF
        exact vj_zret G0 (Or.inr rfl) d_U_carriedBySet_87
      · rw [if_neg c8] at hF
        refine vj_iload_n G (p9 := 2) d_U_carriedBySet_68 rfl rfl ?_
        refine vj_aload_n G (p9 := 0) d_U_carriedBySet_69 rfl rfl ?_
        refine gfC_U_31 G d_U_carriedBySet_70 ?_
        refine vj_iload_n G (p9 := 1) d_U_carriedBySet_73 rfl rfl ?_
        obtain ⟨c9, hF⟩ := ck_some hF
        refine vj_iald G (x := x1) lkC_43 (by decide) c9 d_U_carriedBySet_74 ?_
        refine vj_mr (fun hM10 => ?_)
        refine vj_ishr G d_U_carriedBySet_75 ?_
        refine vj_iconst G (v := 1) d_U_carriedBySet_76 rfl ?_
        refine vj_iand G d_U_carriedBySet_77 ?_
        refine vj_iconst G (v := 1) d_U_carriedBySet_78 rfl ?_
        refine vj_icmp_ne G (tgt := 86) d_U_carriedBySet_79 (by decide) (ir_an _ _) ic_1 (fun c11 => ?_) (fun c11 => ?_)
        · rw [if_pos c11] at hF
          refine vj_sub [] rfl ?_
          exact wk_U_carriedBySet_86 G0 n    _ hF
        · rw [if_neg c11] at hF
          refine vj_iconst G (v := 1) d_U_carriedBySet_82 rfl ?_
          refine vj_goto G (tgt := 87) d_U_carriedBySet_83 (by decide) ?_
          cases hF
          exact vj_zret G0 (Or.inr rfl) d_U_carriedBySet_87
  · rw [if_neg c2] at hF
    refine vj_iload_n G (p9 := 3) d_U_carriedBySet_17 rfl rfl ?_
    refine vj_iload_n G (p9 := 2) d_U_carriedBySet_18 rfl rfl ?_
    refine vj_iload G (p9 := 4) d_U_carriedBySet_19 rfl ?_
    refine vj_ishr G d_U_carriedBySet_21 ?_
    refine vj_iconst G (v := 1) d_U_carriedBySet_22 rfl ?_
    refine vj_iand G d_U_carriedBySet_23 ?_
    refine vj_iconst G (v := 1) d_U_carriedBySet_24 rfl ?_
    refine vj_icmp_ne G (tgt := 40) d_U_carriedBySet_25 (by decide) (ir_an _ _) ic_1 (fun c12 => ?_) (fun c12 => ?_)
    · rw [if_pos c12] at hF
      refine vj_iconst G (v := 0) d_U_carriedBySet_40 rfl ?_
      refine vj_sub [0, 1, 2, 4] rfl ?_
      exact wk_U_carriedBySet_41 G0 n k5 hk5 x1 x2 x4 x3 0 hx1 hx2 hx4 hx3 ic_0 _ hF
    · rw [if_neg c12] at hF
      refine vj_aload_n G (p9 := 0) d_U_carriedBySet_28 rfl rfl ?_
      refine gfC_U_28 G d_U_carriedBySet_29 ?_
      refine vj_iload_n G (p9 := 1) d_U_carriedBySet_32 rfl rfl ?_
      obtain ⟨c13, hF⟩ := ck_some hF
      refine vj_aald5 G (x := x1) lkC_42 (by decide) c13 d_U_carriedBySet_33 ?_
      refine vj_iload G (p9 := 4) d_U_carriedBySet_34 rfl ?_
      obtain ⟨c14, hF⟩ := ck_some hF
      refine vj_iald G (x := x4) (lkC_r130 c13) (by decide) c14 d_U_carriedBySet_36 ?_
      refine vj_mr (fun hM15 => ?_)
      refine vj_goto G (tgt := 41) d_U_carriedBySet_37 (by decide) ?_
      refine vj_sub [0, 1, 2, 4] rfl ?_
      exact wk_U_carriedBySet_41 G0 n k5 hk5 x1 x2 x4 x3 (M (130 + x1.toNat) x4.toNat) hx1 hx2 hx4 hx3 (mr_a hM15 (lkC_r130 c13)) _ hF
set_option maxHeartbeats 4000000 in
set_option maxRecDepth 100000 in
theorem wl_U_carriedBySet_5 {w : Wd} {X : Cx} {r : Int} {M9 : Mm} (G0 : Gx LC w X "WhoRules$Rule" b_U_carriedBySet 5 0 0 (some .boolean)) (n : Nat) : ∀ (f : Nat) (x1 x2 x3 x4 : Int) (hx1 : inR x1) (hx2 : inR x2) (hx3 : inR x3) (hx4 : inR x4) (M : Mm), lp_U_carriedBySet_5 n f x1 x2 x3 x4 M = some (r, M9) → VJ LC w X 5 3 r M9 M [(0, .ref (wa w 3)), (1, .int (i32 x1)), (2, .int (i32 x2)), (3, .int (i32 x3)), (4, .int (i32 x4))] [] 5 := by
  intro f
  induction f with
  | zero => intro x1 x2 x3 x4 hx1 hx2 hx3 hx4 M hF; cases hF
  | succ f ih => intro x1 x2 x3 x4 hx1 hx2 hx3 hx4 M hF; exact wk_U_carriedBySet_5 G0 n (lp_U_carriedBySet_5 n f) ih x1 x2 x3 x4 hx1 hx2 hx3 hx4 M hF
set_option maxHeartbeats 4000000 in
set_option maxRecDepth 100000 in
theorem ct_U_carriedBySet {w : Wd} (hij : ij LC w) (n : Nat) (x1 x2 : Int) (hx1 : inR x1) (hx2 : inR x2) {M : Mm} {r : Int} {M9 : Mm} (hF : f_U_carriedBySet n x1 x2 M = some (r, M9)) : Ct LC w y_U_carriedBySet b_U_carriedBySet 5 (some .boolean) 0 0 3 [.ref (wa w 3), .int (i32 x1), .int (i32 x2)] M r M9 := by
  refine Ct.of hij KstC (by decide +kernel) (Nat.le_of_ble_eq_true rfl) (fun X G0 => ?_)
  have G := G0.1
  show VJ LC w X 5 3 r M9 M [(0, .ref (wa w 3)), (1, .int (i32 x1)), (2, .int (i32 x2))] [] 0
  unfold f_U_carriedBySet at hF
  refine vj_iconst G (v := 0) d_U_carriedBySet_0 rfl ?_
  refine vj_istore_n G (lv2 := [(3, .int (i32 0)), (0, .ref (wa w 3)), (1, .int (i32 x1)), (2, .int (i32 x2))]) d_U_carriedBySet_1 rfl (by decide) rfl ?_
  refine vj_iconst G (v := 0) d_U_carriedBySet_2 rfl ?_
  refine vj_istore G (lv2 := [(4, .int (i32 0)), (3, .int (i32 0)), (0, .ref (wa w 3)), (1, .int (i32 x1)), (2, .int (i32 x2))]) d_U_carriedBySet_3 (by decide) rfl ?_
  refine vj_sub [2, 3, 4, 1, 0] rfl ?_
  exact wl_U_carriedBySet_5 G0 n  n x1 x2 0 0 hx1 hx2 ic_0 ic_0 _ hF
set_option maxHeartbeats 4000000 in
set_option maxRecDepth 100000 in
theorem ct_W_carry {w : Wd} (hij : ij LC w) (n : Nat) (x1 x2 x3 : Int) (hx1 : inR x1) (hx2 : inR x2) (hx3 : inR x3) {M : Mm} {r : Int} {M9 : Mm} (hF : f_W_carry n x1 x2 x3 M = some (r, M9)) : Ct LC w y_W_carry b_W_carry 4 (some .int) 5 125 1 [.ref (wa w 0), .int (i32 x1), .int (i32 x2), .int (i32 x3)] M r M9 := by
  refine Ct.of hij KstC (by decide +kernel) (Nat.le_of_ble_eq_true rfl) (fun X G0 => ?_)
  have G := G0.1
  show VJ LC w X 4 1 r M9 M [(0, .ref (wa w 0)), (1, .int (i32 x1)), (2, .int (i32 x2)), (3, .int (i32 x3))] [] 0
  unfold f_W_carry at hF
  refine vj_aload_n G (p9 := 0) d_W_carry_0 rfl rfl ?_
  refine gfC_W_18 G d_W_carry_1 ?_
  refine vj_iload_n G (p9 := 1) d_W_carry_4 rfl rfl ?_
  obtain ⟨r1, M1, e1, hF⟩ := bnd_some hF
  refine vj_callV3 G (ct_R_isFirm (gx_ij G) n x1 hx1 e1) lkC_1 clC_7 rfl q_592 cq_R_isFirm rfl (by decide) (by decide) (Nat.le_of_ble_eq_true rfl) d_W_carry_5 rfl (fun hr1 => ?_)
  refine vj_if_eq G (tgt := 18) d_W_carry_8 (by decide) (ir_b hr1) (fun c2 => ?_) (fun c2 => ?_)
  · rw [if_pos c2] at hF
    refine vj_iconst G (v := (-1)) d_W_carry_18 rfl ?_
    cases hF
    exact vj_iret G0 ic_m1 d_W_carry_19
  · rw [if_neg c2] at hF
    refine vj_iload_n G (p9 := 3) d_W_carry_11 rfl rfl ?_
    obtain ⟨r3, M3, e3, hF⟩ := bnd_some hF
    refine vj_callS3 G (ct_W_isDay (gx_ij G) n x3 hx3 e3) q_639 cq_W_isDay rfl (by decide) (by decide) (Nat.le_of_ble_eq_true rfl) d_W_carry_12 rfl (fun hr3 => ?_)
    refine vj_if_ne G (tgt := 20) d_W_carry_15 (by decide) (ir_b hr3) (fun c4 => ?_) (fun c4 => ?_)
    · rw [if_pos c4] at hF
      refine vj_aload_n G (p9 := 0) d_W_carry_20 rfl rfl ?_
      refine gfC_W_18 G d_W_carry_21 ?_
      refine vj_iload_n G (p9 := 2) d_W_carry_24 rfl rfl ?_
      obtain ⟨r5, M5, e5, hF⟩ := bnd_some hF
      refine vj_callV3 G (ct_R_isSet (gx_ij G) n x2 hx2 e5) lkC_1 clC_7 rfl q_852 cq_R_isSet rfl (by decide) (by decide) (Nat.le_of_ble_eq_true rfl) d_W_carry_25 rfl (fun hr5 => ?_)
      refine vj_if_ne G (tgt := 34) d_W_carry_28 (by decide) (ir_b hr5) (fun c6 => ?_) (fun c6 => ?_)
      · rw [if_pos c6] at hF
        refine vj_aload_n G (p9 := 0) d_W_carry_34 rfl rfl ?_
        refine gfC_W_34 G d_W_carry_35 ?_
        refine vj_iload_n G (p9 := 3) d_W_carry_38 rfl rfl ?_
        obtain ⟨r7, M7, e7, hF⟩ := bnd_some hF
        refine vj_callV0 G (ct_U_look (gx_ij G) n x3 hx3 e7) lkC_3 clC_9 rfl q_775 cq_U_look rfl (by decide) (by decide) (Nat.le_of_ble_eq_true rfl) d_W_carry_39 rfl (fun hr7 => ?_)
        refine vj_aload_n G (p9 := 0) d_W_carry_42 rfl rfl ?_
        refine gfC_W_34 G d_W_carry_43 ?_
        obtain ⟨r8, M8, e8, hF⟩ := bnd_some hF
        refine vj_callV0 G (ct_U_tally (gx_ij G) n   e8) lkC_3 clC_9 rfl q_836 cq_U_tally rfl (by decide) (by decide) (Nat.le_of_ble_eq_true rfl) d_W_carry_46 rfl (fun hr8 => ?_)
        refine vj_aload_n G (p9 := 0) d_W_carry_49 rfl rfl ?_
        refine gfC_W_34 G d_W_carry_50 ?_
        refine vj_iload_n G (p9 := 1) d_W_carry_53 rfl rfl ?_
        refine vj_iload_n G (p9 := 2) d_W_carry_54 rfl rfl ?_
        obtain ⟨r9, M9, e9, hF⟩ := bnd_some hF
        refine vj_callV3 G (ct_U_carriedBySet (gx_ij G) n x1 x2 hx1 hx2 e9) lkC_3 clC_9 rfl q_856 cq_U_carriedBySet rfl (by decide) (by decide) (Nat.le_of_ble_eq_true rfl) d_W_carry_55 rfl (fun hr9 => ?_)
        refine vj_if_eq G (tgt := 65) d_W_carry_58 (by decide) (ir_b hr9) (fun c10 => ?_) (fun c10 => ?_)
        · rw [if_pos c10] at hF
          refine vj_iconst G (v := 0) d_W_carry_65 rfl ?_
          cases hF
          exact vj_iret G0 ic_0 d_W_carry_66
        · rw [if_neg c10] at hF
          refine vj_iconst G (v := 1) d_W_carry_61 rfl ?_
          refine vj_goto G (tgt := 66) d_W_carry_62 (by decide) ?_
          cases hF
          exact vj_iret G0 ic_1 d_W_carry_66
      · rw [if_neg c6] at hF
        refine vj_bipush G (v := (-2)) d_W_carry_31 rfl ?_
        cases hF
        exact vj_iret G0 ic_m2 d_W_carry_33
    · rw [if_neg c4] at hF
      refine vj_iconst G (v := (-1)) d_W_carry_18 rfl ?_
      cases hF
      exact vj_iret G0 ic_m1 d_W_carry_19
set_option maxHeartbeats 4000000 in
set_option maxRecDepth 100000 in
theorem wk_U_clear_134 {w : Wd} {X : Cx} {r : Int} {M9 : Mm} (G0 : Gx LC w X "WhoRules$Rule" b_U_clear 4 2 42 none) (n : Nat) (k57 : Int → Mm → Rr) (hk57 : ∀ (x1 : Int) (hx1 : inR x1) (M : Mm), k57 x1 M = some (r, M9) → VJ LC w X 4 0 r M9 M [(0, .ref (wa w 3)), (1, .int (i32 x1))] [] 57) (k90 : Int → Int → Int → Mm → Rr) (hk90 : ∀ (x1 x2 x3 : Int) (hx1 : inR x1) (hx2 : inR x2) (hx3 : inR x3) (M : Mm), k90 x1 x2 x3 M = some (r, M9) → VJ LC w X 4 0 r M9 M [(0, .ref (wa w 3)), (1, .int (i32 x1)), (2, .int (i32 x2)), (3, .int (i32 x3))] [] 90) (x1 x2 x3 : Int) (hx1 : inR x1) (hx2 : inR x2) (hx3 : inR x3) (M : Mm) (hF : f_U_clear_134 n k57 k90 x1 x2 x3 M = some (r, M9)) : VJ LC w X 4 0 r M9 M [(0, .ref (wa w 3)), (1, .int (i32 x1)), (2, .int (i32 x2)), (3, .int (i32 x3))] [] 134 := by
  have G := G0.1
  unfold f_U_clear_134 at hF
  refine vj_iinc G (p9 := 3) (n := 1) (lv2 := [(3, .int (i32 (w32 (x3 + 1)))), (0, .ref (wa w 3)), (1, .int (i32 x1)), (2, .int (i32 x2))]) d_U_clear_134 rfl (by decide) rfl ?_
  refine vj_goto G (tgt := 90) d_U_clear_137 (by decide) ?_
  refine vj_sub [1, 2, 3, 0] rfl ?_
  exact hk90 x1 x2 (w32 (x3 + 1)) hx1 hx2 (ir_w _) _ hF
set_option maxHeartbeats 4000000 in
set_option maxRecDepth 100000 in
theorem wk_U_clear_90 {w : Wd} {X : Cx} {r : Int} {M9 : Mm} (G0 : Gx LC w X "WhoRules$Rule" b_U_clear 4 2 42 none) (n : Nat) (k57 : Int → Mm → Rr) (hk57 : ∀ (x1 : Int) (hx1 : inR x1) (M : Mm), k57 x1 M = some (r, M9) → VJ LC w X 4 0 r M9 M [(0, .ref (wa w 3)), (1, .int (i32 x1))] [] 57) (k90 : Int → Int → Int → Mm → Rr) (hk90 : ∀ (x1 x2 x3 : Int) (hx1 : inR x1) (hx2 : inR x2) (hx3 : inR x3) (M : Mm), k90 x1 x2 x3 M = some (r, M9) → VJ LC w X 4 0 r M9 M [(0, .ref (wa w 3)), (1, .int (i32 x1)), (2, .int (i32 x2)), (3, .int (i32 x3))] [] 90) (x1 x2 x3 : Int) (hx1 : inR x1) (hx2 : inR x2) (hx3 : inR x3) (M : Mm) (hF : f_U_clear_90 n k57 k90 x1 x2 x3 M = some (r, M9)) : VJ LC w X 4 0 r M9 M [(0, .ref (wa w 3)), (1, .int (i32 x1)), (2, .int (i32 x2)), (3, .int (i32 x3))] [] 90 := by
  have G := G0.1
  unfold f_U_clear_90 at hF
  refine vj_iload_n G (p9 := 3) d_U_clear_90 rfl rfl ?_
  refine vj_aload_n G (p9 := 0) d_U_clear_91 rfl rfl ?_
  refine gfC_U_46 G d_U_clear_92 ?_
  refine gfC_U_129 G d_U_clear_95 ?_
  refine vj_mr (fun hM1 => ?_)
  refine vj_icmp_ge G (tgt := 140) d_U_clear_98 (by decide) hx3 (mr_o hM1 lkC_1 flC_7_1) (fun c2 => ?_) (fun c2 => ?_)
  · rw [if_pos c2] at hF
    refine vj_iinc G (p9 := 1) (n := 1) (lv2 := [(1, .int (i32 (w32 (x1 + 1)))), (0, .ref (wa w 3)), (2, .int (i32 x2)), (3, .int (i32 x3))]) d_U_clear_140 rfl (by decide) rfl ?_
    refine vj_goto G (tgt := 57) d_U_clear_143 (by decide) ?_
    refine vj_sub [1, 0] rfl ?_
    exact hk57 (w32 (x1 + 1)) (ir_w _) _ hF
  · rw [if_neg c2] at hF
    refine vj_aload_n G (p9 := 0) d_U_clear_101 rfl rfl ?_
    refine gfC_U_37 G d_U_clear_102 ?_
    refine vj_iload_n G (p9 := 3) d_U_clear_105 rfl rfl ?_
    obtain ⟨c3, hF⟩ := ck_some hF
    refine vj_iald G (x := x3) lkC_45 (by decide) c3 d_U_clear_106 ?_
    refine vj_mr (fun hM4 => ?_)
    refine vj_if_lt G (tgt := 134) d_U_clear_107 (by decide) (mr_a hM4 lkC_45) (fun c5 => ?_) (fun c5 => ?_)
    · rw [if_pos c5] at hF
      exact wk_U_clear_134 G0 n k57 hk57 k90 hk90 x1 x2 x3 hx1 hx2 hx3 _ hF
    · rw [if_neg c5] at hF
      refine vj_aload_n G (p9 := 0) d_U_clear_110 rfl rfl ?_
      refine gfC_U_40 G d_U_clear_111 ?_
      refine vj_iload_n G (p9 := 2) d_U_clear_114 rfl rfl ?_
      obtain ⟨c6, hF⟩ := ck_some hF
      refine vj_aald5 G (x := x2) lkC_46 (by decide) c6 d_U_clear_115 ?_
      refine vj_aload_n G (p9 := 0) d_U_clear_116 rfl rfl ?_
      refine gfC_U_37 G d_U_clear_117 ?_
      refine vj_iload_n G (p9 := 3) d_U_clear_120 rfl rfl ?_
      obtain ⟨c7, hF⟩ := ck_some hF
      refine vj_iald G (x := x3) lkC_45 (by decide) c7 d_U_clear_121 ?_
      refine vj_mr (fun hM8 => ?_)
      refine vj_dup2_11 G d_U_clear_122 rfl rfl ?_
      obtain ⟨c9, hF⟩ := ck_some hF
      refine vj_iald G (x := (M 45 x3.toNat)) (lkC_r150 c6) (by decide) c9 d_U_clear_123 ?_
      refine vj_aload_n G (p9 := 0) d_U_clear_124 rfl rfl ?_
      refine gfC_U_28 G d_U_clear_125 ?_
      refine vj_iload_n G (p9 := 2) d_U_clear_128 rfl rfl ?_
      obtain ⟨c10, hF⟩ := ck_some hF
      refine vj_aald5 G (x := x2) lkC_42 (by decide) c10 d_U_clear_129 ?_
      refine vj_iload_n G (p9 := 3) d_U_clear_130 rfl rfl ?_
      obtain ⟨c11, hF⟩ := ck_some hF
      refine vj_iald G (x := x3) (lkC_r130 c10) (by decide) c11 d_U_clear_131 ?_
      refine vj_iadd G d_U_clear_132 ?_
      obtain ⟨c12, hF⟩ := ck_some hF
      refine vj_iast G (x := (M 45 x3.toNat)) (lkC_r150 c6) (by decide) (k9_150 c6) (kh_150 c6) c12 (ir_w _) d_U_clear_133 ?_
      exact wk_U_clear_134 G0 n k57 hk57 k90 hk90 x1 x2 x3 hx1 hx2 hx3 _ hF
set_option maxHeartbeats 4000000 in
set_option maxRecDepth 100000 in
theorem wl_U_clear_90 {w : Wd} {X : Cx} {r : Int} {M9 : Mm} (G0 : Gx LC w X "WhoRules$Rule" b_U_clear 4 2 42 none) (n : Nat) (k57 : Int → Mm → Rr) (hk57 : ∀ (x1 : Int) (hx1 : inR x1) (M : Mm), k57 x1 M = some (r, M9) → VJ LC w X 4 0 r M9 M [(0, .ref (wa w 3)), (1, .int (i32 x1))] [] 57) : ∀ (f : Nat) (x1 x2 x3 : Int) (hx1 : inR x1) (hx2 : inR x2) (hx3 : inR x3) (M : Mm), lp_U_clear_90 n k57 f x1 x2 x3 M = some (r, M9) → VJ LC w X 4 0 r M9 M [(0, .ref (wa w 3)), (1, .int (i32 x1)), (2, .int (i32 x2)), (3, .int (i32 x3))] [] 90 := by
  intro f
  induction f with
  | zero => intro x1 x2 x3 hx1 hx2 hx3 M hF; cases hF
  | succ f ih => intro x1 x2 x3 hx1 hx2 hx3 M hF; exact wk_U_clear_90 G0 n k57 hk57 (lp_U_clear_90 n k57 f) ih x1 x2 x3 hx1 hx2 hx3 M hF
set_option maxHeartbeats 4000000 in
set_option maxRecDepth 100000 in
theorem wk_U_clear_57 {w : Wd} {X : Cx} {r : Int} {M9 : Mm} (G0 : Gx LC w X "WhoRules$Rule" b_U_clear 4 2 42 none) (n : Nat) (k57 : Int → Mm → Rr) (hk57 : ∀ (x1 : Int) (hx1 : inR x1) (M : Mm), k57 x1 M = some (r, M9) → VJ LC w X 4 0 r M9 M [(0, .ref (wa w 3)), (1, .int (i32 x1))] [] 57) (x1 : Int) (hx1 : inR x1) (M : Mm) (hF : f_U_clear_57 n k57 x1 M = some (r, M9)) : VJ LC w X 4 0 r M9 M [(0, .ref (wa w 3)), (1, .int (i32 x1))] [] 57 := by
  have G := G0.1
  unfold f_U_clear_57 at hF
  refine vj_iload_n G (p9 := 1) d_U_clear_57 rfl rfl ?_
  refine vj_aload_n G (p9 := 0) d_U_clear_58 rfl rfl ?_
  refine gfC_U_46 G d_U_clear_59 ?_
  refine gfC_U_58 G d_U_clear_62 ?_
  refine vj_mr (fun hM1 => ?_)
  refine vj_icmp_ge G (tgt := 146) d_U_clear_65 (by decide) hx1 (mr_o hM1 lkC_1 flC_7_2) (fun c2 => ?_) (fun c2 => ?_)
  · rw [if_pos c2] at hF
    cases hF
    exact vj_vret G0 d_U_clear_146
  · rw [if_neg c2] at hF
    refine vj_aload_n G (p9 := 0) d_U_clear_68 rfl rfl ?_
    refine gfC_U_46 G d_U_clear_69 ?_
    refine gfC_U_63 G d_U_clear_72 ?_
    refine vj_iload_n G (p9 := 1) d_U_clear_75 rfl rfl ?_
    obtain ⟨c3, hF⟩ := ck_some hF
    refine vj_iald G (x := x1) lkC_19 (by decide) c3 d_U_clear_76 ?_
    refine vj_mr (fun hM4 => ?_)
    refine vj_istore_n G (lv2 := [(2, .int (i32 (M 19 x1.toNat))), (0, .ref (wa w 3)), (1, .int (i32 x1))]) d_U_clear_77 rfl (by decide) rfl ?_
    refine vj_aload_n G (p9 := 1) d_U_clear_78 rfl rfl ?_
    refine gfC_U_40 G d_U_clear_79 ?_
    refine vj_iload_n G (p9 := 0) d_U_clear_82 rfl rfl ?_
    obtain ⟨c5, hF⟩ := ck_some hF
    refine vj_aald5 G (x := (M 19 x1.toNat)) lkC_46 (by decide) c5 d_U_clear_83 ?_
    refine vj_iconst G (v := 0) d_U_clear_84 rfl ?_
    refine vj_fillI G (lkC_r150 c5) (by decide) (k9_150 c5) (kh_150 c5) q_840 ic_0 (by decide) (by decide) (by decide) d_U_clear_85 ?_
    refine vj_iconst G (v := 0) d_U_clear_88 rfl ?_
    refine vj_istore_n G (lv2 := [(3, .int (i32 0)), (2, .int (i32 (M 19 x1.toNat))), (0, .ref (wa w 3)), (1, .int (i32 x1))]) d_U_clear_89 rfl (by decide) rfl ?_
    refine vj_sub [2, 3, 1, 0] rfl ?_
    exact wl_U_clear_90 G0 n k57 hk57 n x1 (M 19 x1.toNat) 0 hx1 (mr_a hM4 lkC_19) ic_0 _ hF
set_option maxHeartbeats 4000000 in
set_option maxRecDepth 100000 in
theorem wl_U_clear_57 {w : Wd} {X : Cx} {r : Int} {M9 : Mm} (G0 : Gx LC w X "WhoRules$Rule" b_U_clear 4 2 42 none) (n : Nat) : ∀ (f : Nat) (x1 : Int) (hx1 : inR x1) (M : Mm), lp_U_clear_57 n f x1 M = some (r, M9) → VJ LC w X 4 0 r M9 M [(0, .ref (wa w 3)), (1, .int (i32 x1))] [] 57 := by
  intro f
  induction f with
  | zero => intro x1 hx1 M hF; cases hF
  | succ f ih => intro x1 hx1 M hF; exact wk_U_clear_57 G0 n (lp_U_clear_57 n f) ih x1 hx1 M hF
set_option maxHeartbeats 4000000 in
set_option maxRecDepth 100000 in
theorem wk_U_clear_48 {w : Wd} {X : Cx} {r : Int} {M9 : Mm} (G0 : Gx LC w X "WhoRules$Rule" b_U_clear 4 2 42 none) (n : Nat) (k7 : Int → Mm → Rr) (hk7 : ∀ (x1 : Int) (hx1 : inR x1) (M : Mm), k7 x1 M = some (r, M9) → VJ LC w X 4 0 r M9 M [(0, .ref (wa w 3)), (1, .int (i32 x1))] [] 7) (x1 s1 s2 : Int) (hx1 : inR x1) (hs1 : inR s1) (hs2 : inR s2) (M : Mm) (hF : f_U_clear_48 n k7 x1 s1 s2 M = some (r, M9)) : VJ LC w X 4 0 r M9 M [(0, .ref (wa w 3)), (1, .int (i32 x1))] [.int (i32 s2), .int (i32 s1), .ref (wa w 45)] 48 := by
  have G := G0.1
  unfold f_U_clear_48 at hF
  obtain ⟨c1, hF⟩ := ck_some hF
  refine vj_iast G (x := s1) lkC_45 (by decide) (by decide) (by decide) c1 hs2 d_U_clear_48 ?_
  refine vj_iinc G (p9 := 1) (n := 1) (lv2 := [(1, .int (i32 (w32 (x1 + 1)))), (0, .ref (wa w 3))]) d_U_clear_49 rfl (by decide) rfl ?_
  refine vj_goto G (tgt := 7) d_U_clear_52 (by decide) ?_
  refine vj_sub [1, 0] rfl ?_
  exact hk7 (w32 (x1 + 1)) (ir_w _) _ hF
set_option maxHeartbeats 4000000 in
set_option maxRecDepth 100000 in
theorem wk_U_clear_7 {w : Wd} {X : Cx} {r : Int} {M9 : Mm} (G0 : Gx LC w X "WhoRules$Rule" b_U_clear 4 2 42 none) (n : Nat) (k7 : Int → Mm → Rr) (hk7 : ∀ (x1 : Int) (hx1 : inR x1) (M : Mm), k7 x1 M = some (r, M9) → VJ LC w X 4 0 r M9 M [(0, .ref (wa w 3)), (1, .int (i32 x1))] [] 7) (x1 : Int) (hx1 : inR x1) (M : Mm) (hF : f_U_clear_7 n k7 x1 M = some (r, M9)) : VJ LC w X 4 0 r M9 M [(0, .ref (wa w 3)), (1, .int (i32 x1))] [] 7 := by
  have G := G0.1
  unfold f_U_clear_7 at hF
  refine vj_iload_n G (p9 := 1) d_U_clear_7 rfl rfl ?_
  refine vj_aload_n G (p9 := 0) d_U_clear_8 rfl rfl ?_
  refine gfC_U_46 G d_U_clear_9 ?_
  refine gfC_U_129 G d_U_clear_12 ?_
  refine vj_mr (fun hM1 => ?_)
  refine vj_icmp_ge G (tgt := 55) d_U_clear_15 (by decide) hx1 (mr_o hM1 lkC_1 flC_7_1) (fun c2 => ?_) (fun c2 => ?_)
  · rw [if_pos c2] at hF
    refine vj_iconst G (v := 0) d_U_clear_55 rfl ?_
    refine vj_istore_n G (lv2 := [(1, .int (i32 0)), (0, .ref (wa w 3))]) d_U_clear_56 rfl (by decide) rfl ?_
    refine vj_sub [1, 0] rfl ?_
    exact wl_U_clear_57 G0 n  n 0 ic_0 _ hF
  · rw [if_neg c2] at hF
    refine vj_aload_n G (p9 := 0) d_U_clear_18 rfl rfl ?_
    refine gfC_U_37 G d_U_clear_19 ?_
    refine vj_iload_n G (p9 := 1) d_U_clear_22 rfl rfl ?_
    refine vj_aload_n G (p9 := 0) d_U_clear_23 rfl rfl ?_
    refine gfC_U_46 G d_U_clear_24 ?_
    refine vj_iload_n G (p9 := 1) d_U_clear_27 rfl rfl ?_
    obtain ⟨r3, M3, e3, hF⟩ := bnd_some hF
    refine vj_callV3 G (ct_R_isFirm (gx_ij G) n x1 hx1 e3) lkC_1 clC_7 rfl q_873 cq_R_isFirm rfl (by decide) (by decide) (Nat.le_of_ble_eq_true rfl) d_U_clear_28 rfl (fun hr3 => ?_)
    refine vj_if_eq G (tgt := 39) d_U_clear_31 (by decide) (ir_b hr3) (fun c4 => ?_) (fun c4 => ?_)
    · rw [if_pos c4] at hF
      refine vj_aload_n G (p9 := 0) d_U_clear_39 rfl rfl ?_
      refine gfC_U_46 G d_U_clear_40 ?_
      refine gfC_U_143 G d_U_clear_43 ?_
      refine vj_iload_n G (p9 := 1) d_U_clear_46 rfl rfl ?_
      obtain ⟨c5, hF⟩ := ck_some hF
      refine vj_iald G (x := x1) lkC_18 (by decide) c5 d_U_clear_47 ?_
      refine vj_mr (fun hM6 => ?_)
      exact wk_U_clear_48 G0 n k7 hk7 x1 x1 (M3 18 x1.toNat) hx1 hx1 (mr_a hM6 lkC_18) _ hF
    · rw [if_neg c4] at hF
      refine vj_bipush G (v := (-5)) d_U_clear_34 rfl ?_
      refine vj_goto G (tgt := 48) d_U_clear_36 (by decide) ?_
      exact wk_U_clear_48 G0 n k7 hk7 x1 x1 (-5) hx1 hx1 ic_m5 _ hF
set_option maxHeartbeats 4000000 in
set_option maxRecDepth 100000 in
theorem wl_U_clear_7 {w : Wd} {X : Cx} {r : Int} {M9 : Mm} (G0 : Gx LC w X "WhoRules$Rule" b_U_clear 4 2 42 none) (n : Nat) : ∀ (f : Nat) (x1 : Int) (hx1 : inR x1) (M : Mm), lp_U_clear_7 n f x1 M = some (r, M9) → VJ LC w X 4 0 r M9 M [(0, .ref (wa w 3)), (1, .int (i32 x1))] [] 7 := by
  intro f
  induction f with
  | zero => intro x1 hx1 M hF; cases hF
  | succ f ih => intro x1 hx1 M hF; exact wk_U_clear_7 G0 n (lp_U_clear_7 n f) ih x1 hx1 M hF
set_option maxHeartbeats 4000000 in
set_option maxRecDepth 100000 in
theorem ct_U_clear {w : Wd} (hij : ij LC w) (n : Nat) {M : Mm} {r : Int} {M9 : Mm} (hF : f_U_clear n  M = some (r, M9)) : Ct LC w y_U_clear b_U_clear 4 none 2 42 0 [.ref (wa w 3)] M r M9 := by
  refine Ct.of hij KstC (by decide +kernel) (Nat.le_of_ble_eq_true rfl) (fun X G0 => ?_)
  have G := G0.1
  show VJ LC w X 4 0 r M9 M [(0, .ref (wa w 3))] [] 0
  unfold f_U_clear at hF
  refine vj_aload_n G (p9 := 0) d_U_clear_0 rfl rfl ?_
  refine vj_iconst G (v := 0) d_U_clear_1 rfl ?_
  refine pfC_U_137 G ic_0 d_U_clear_2 ?_
  refine vj_iconst G (v := 0) d_U_clear_5 rfl ?_
  refine vj_istore_n G (lv2 := [(1, .int (i32 0)), (0, .ref (wa w 3))]) d_U_clear_6 rfl (by decide) rfl ?_
  refine vj_sub [1, 0] rfl ?_
  exact wl_U_clear_7 G0 n  n 0 ic_0 _ hF
set_option maxHeartbeats 4000000 in
set_option maxRecDepth 100000 in
theorem wk_U_carriedByGroup_45 {w : Wd} {X : Cx} {r : Int} {M9 : Mm} (G0 : Gx LC w X "WhoRules$Rule" b_U_carriedByGroup 3 0 0 (some .boolean)) (n : Nat) (M : Mm) (hF : f_U_carriedByGroup_45 n  M = some (r, M9)) : VJ LC w X 3 3 r M9 M [] [] 45 := by
  have G := G0.1
  unfold f_U_carriedByGroup_45 at hF
  refine vj_iconst G (v := 0) d_U_carriedByGroup_45 rfl ?_
  cases hF
  exact vj_zret G0 (Or.inl rfl) d_U_carriedByGroup_46
set_option maxHeartbeats 4000000 in
set_option maxRecDepth 100000 in
theorem ct_U_carriedByGroup {w : Wd} (hij : ij LC w) (n : Nat) (x1 x2 : Int) (hx1 : inR x1) (hx2 : inR x2) {M : Mm} {r : Int} {M9 : Mm} (hF : f_U_carriedByGroup n x1 x2 M = some (r, M9)) : Ct LC w y_U_carriedByGroup b_U_carriedByGroup 3 (some .boolean) 0 0 3 [.ref (wa w 3), .int (i32 x1), .int (i32 x2)] M r M9 := by
  refine Ct.of hij KstC (by decide +kernel) (Nat.le_of_ble_eq_true rfl) (fun X G0 => ?_)
  have G := G0.1
  show VJ LC w X 3 3 r M9 M [(0, .ref (wa w 3)), (1, .int (i32 x1)), (2, .int (i32 x2))] [] 0
  unfold f_U_carriedByGroup at hF
  refine vj_aload_n G (p9 := 0) d_U_carriedByGroup_0 rfl rfl ?_
  refine gfC_U_40 G d_U_carriedByGroup_1 ?_
  refine vj_iload_n G (p9 := 1) d_U_carriedByGroup_4 rfl rfl ?_
  obtain ⟨c1, hF⟩ := ck_some hF
  refine vj_aald5 G (x := x1) lkC_46 (by decide) c1 d_U_carriedByGroup_5 ?_
  refine vj_iload_n G (p9 := 2) d_U_carriedByGroup_6 rfl rfl ?_
  obtain ⟨c2, hF⟩ := ck_some hF
  refine vj_iald G (x := x2) (lkC_r150 c1) (by decide) c2 d_U_carriedByGroup_7 ?_
  refine vj_mr (fun hM3 => ?_)
  refine vj_aload_n G (p9 := 0) d_U_carriedByGroup_8 rfl rfl ?_
  refine gfC_U_34 G d_U_carriedByGroup_9 ?_
  refine vj_iload_n G (p9 := 1) d_U_carriedByGroup_12 rfl rfl ?_
  obtain ⟨c4, hF⟩ := ck_some hF
  refine vj_iald G (x := x1) lkC_44 (by decide) c4 d_U_carriedByGroup_13 ?_
  refine vj_icmp_le G (tgt := 45) d_U_carriedByGroup_14 (by decide) (mr_a hM3 (lkC_r150 c1)) (mr_a hM3 lkC_44) (fun c5 => ?_) (fun c5 => ?_)
  · rw [if_pos c5] at hF
    refine vj_sub [] rfl ?_
    exact wk_U_carriedByGroup_45 G0 n    _ hF
  · rw [if_neg c5] at hF
    refine vj_aload_n G (p9 := 0) d_U_carriedByGroup_17 rfl rfl ?_
    refine gfC_U_31 G d_U_carriedByGroup_18 ?_
    refine vj_iload_n G (p9 := 1) d_U_carriedByGroup_21 rfl rfl ?_
    obtain ⟨c6, hF⟩ := ck_some hF
    refine vj_iald G (x := x1) lkC_43 (by decide) c6 d_U_carriedByGroup_22 ?_
    refine vj_mr (fun hM7 => ?_)
    refine vj_if_lt G (tgt := 41) d_U_carriedByGroup_23 (by decide) (mr_a hM7 lkC_43) (fun c8 => ?_) (fun c8 => ?_)
    · rw [if_pos c8] at hF
      refine vj_iconst G (v := 1) d_U_carriedByGroup_41 rfl ?_
      refine vj_goto G (tgt := 46) d_U_carriedByGroup_42 (by decide) ?_
      cases hF
      exact vj_zret G0 (Or.inr rfl) d_U_carriedByGroup_46
    · rw [if_neg c8] at hF
      refine vj_aload_n G (p9 := 0) d_U_carriedByGroup_26 rfl rfl ?_
      refine gfC_U_37 G d_U_carriedByGroup_27 ?_
      refine vj_aload_n G (p9 := 0) d_U_carriedByGroup_30 rfl rfl ?_
      refine gfC_U_31 G d_U_carriedByGroup_31 ?_
      refine vj_iload_n G (p9 := 1) d_U_carriedByGroup_34 rfl rfl ?_
      obtain ⟨c9, hF⟩ := ck_some hF
      refine vj_iald G (x := x1) lkC_43 (by decide) c9 d_U_carriedByGroup_35 ?_
      refine vj_mr (fun hM10 => ?_)
      obtain ⟨c11, hF⟩ := ck_some hF
      refine vj_iald G (x := (M 43 x1.toNat)) lkC_45 (by decide) c11 d_U_carriedByGroup_36 ?_
      refine vj_iload_n G (p9 := 2) d_U_carriedByGroup_37 rfl rfl ?_
      refine vj_icmp_ne G (tgt := 45) d_U_carriedByGroup_38 (by decide) (mr_a hM10 lkC_45) hx2 (fun c12 => ?_) (fun c12 => ?_)
      · rw [if_pos c12] at hF
        refine vj_sub [] rfl ?_
        exact wk_U_carriedByGroup_45 G0 n    _ hF
      · rw [if_neg c12] at hF
        refine vj_iconst G (v := 1) d_U_carriedByGroup_41 rfl ?_
        refine vj_goto G (tgt := 46) d_U_carriedByGroup_42 (by decide) ?_
        cases hF
        exact vj_zret G0 (Or.inr rfl) d_U_carriedByGroup_46
set_option maxHeartbeats 4000000 in
set_option maxRecDepth 100000 in
theorem wk_U_leastRuler_2 {w : Wd} {X : Cx} {r : Int} {M9 : Mm} (G0 : Gx LC w X "WhoRules$Rule" b_U_leastRuler 3 1 22 (some .int)) (n : Nat) (k2 : Int → Int → Mm → Rr) (hk2 : ∀ (x1 x2 : Int) (hx1 : inR x1) (hx2 : inR x2) (M : Mm), k2 x1 x2 M = some (r, M9) → VJ LC w X 3 1 r M9 M [(0, .ref (wa w 3)), (1, .int (i32 x1)), (2, .int (i32 x2))] [] 2) (x1 x2 : Int) (hx1 : inR x1) (hx2 : inR x2) (M : Mm) (hF : f_U_leastRuler_2 n k2 x1 x2 M = some (r, M9)) : VJ LC w X 3 1 r M9 M [(0, .ref (wa w 3)), (1, .int (i32 x1)), (2, .int (i32 x2))] [] 2 := by
  have G := G0.1
  unfold f_U_leastRuler_2 at hF
  refine vj_iload_n G (p9 := 2) d_U_leastRuler_2 rfl rfl ?_
  refine vj_aload_n G (p9 := 0) d_U_leastRuler_3 rfl rfl ?_
  refine gfC_U_46 G d_U_leastRuler_4 ?_
  refine gfC_U_171 G d_U_leastRuler_7 ?_
  refine vj_mr (fun hM1 => ?_)
  refine vj_icmp_ge G (tgt := 46) d_U_leastRuler_10 (by decide) hx2 (mr_o hM1 lkC_1 flC_7_3) (fun c2 => ?_) (fun c2 => ?_)
  · rw [if_pos c2] at hF
    refine vj_bipush G (v := (-5)) d_U_leastRuler_46 rfl ?_
    cases hF
    exact vj_iret G0 ic_m5 d_U_leastRuler_48
  · rw [if_neg c2] at hF
    refine vj_aload_n G (p9 := 0) d_U_leastRuler_13 rfl rfl ?_
    refine vj_iload_n G (p9 := 1) d_U_leastRuler_14 rfl rfl ?_
    refine vj_aload_n G (p9 := 0) d_U_leastRuler_15 rfl rfl ?_
    refine gfC_U_46 G d_U_leastRuler_16 ?_
    refine gfC_U_174 G d_U_leastRuler_19 ?_
    refine vj_iload_n G (p9 := 2) d_U_leastRuler_22 rfl rfl ?_
    obtain ⟨c3, hF⟩ := ck_some hF
    refine vj_iald G (x := x2) lkC_20 (by decide) c3 d_U_leastRuler_23 ?_
    refine vj_mr (fun hM4 => ?_)
    obtain ⟨r5, M5, e5, hF⟩ := bnd_some hF
    refine vj_callV3 G (ct_U_carriedByGroup (gx_ij G) n x1 (M 20 x2.toNat) hx1 (mr_a hM4 lkC_20) e5) lkC_3 clC_9 rfl q_882 cq_U_carriedByGroup rfl (by decide) (by decide) (Nat.le_of_ble_eq_true rfl) d_U_leastRuler_24 rfl (fun hr5 => ?_)
    refine vj_if_eq G (tgt := 40) d_U_leastRuler_27 (by decide) (ir_b hr5) (fun c6 => ?_) (fun c6 => ?_)
    · rw [if_pos c6] at hF
      refine vj_iinc G (p9 := 2) (n := 1) (lv2 := [(2, .int (i32 (w32 (x2 + 1)))), (0, .ref (wa w 3)), (1, .int (i32 x1))]) d_U_leastRuler_40 rfl (by decide) rfl ?_
      refine vj_goto G (tgt := 2) d_U_leastRuler_43 (by decide) ?_
      refine vj_sub [1, 2, 0] rfl ?_
      exact hk2 x1 (w32 (x2 + 1)) hx1 (ir_w _) _ hF
    · rw [if_neg c6] at hF
      refine vj_aload_n G (p9 := 0) d_U_leastRuler_30 rfl rfl ?_
      refine gfC_U_46 G d_U_leastRuler_31 ?_
      refine gfC_U_174 G d_U_leastRuler_34 ?_
      refine vj_iload_n G (p9 := 2) d_U_leastRuler_37 rfl rfl ?_
      obtain ⟨c7, hF⟩ := ck_some hF
      refine vj_iald G (x := x2) lkC_20 (by decide) c7 d_U_leastRuler_38 ?_
      refine vj_mr (fun hM8 => ?_)
      cases hF
      exact vj_iret G0 (mr_a hM8 lkC_20) d_U_leastRuler_39
set_option maxHeartbeats 4000000 in
set_option maxRecDepth 100000 in
theorem wl_U_leastRuler_2 {w : Wd} {X : Cx} {r : Int} {M9 : Mm} (G0 : Gx LC w X "WhoRules$Rule" b_U_leastRuler 3 1 22 (some .int)) (n : Nat) : ∀ (f : Nat) (x1 x2 : Int) (hx1 : inR x1) (hx2 : inR x2) (M : Mm), lp_U_leastRuler_2 n f x1 x2 M = some (r, M9) → VJ LC w X 3 1 r M9 M [(0, .ref (wa w 3)), (1, .int (i32 x1)), (2, .int (i32 x2))] [] 2 := by
  intro f
  induction f with
  | zero => intro x1 x2 hx1 hx2 M hF; cases hF
  | succ f ih => intro x1 x2 hx1 hx2 M hF; exact wk_U_leastRuler_2 G0 n (lp_U_leastRuler_2 n f) ih x1 x2 hx1 hx2 M hF
set_option maxHeartbeats 4000000 in
set_option maxRecDepth 100000 in
theorem ct_U_leastRuler {w : Wd} (hij : ij LC w) (n : Nat) (x1 : Int) (hx1 : inR x1) {M : Mm} {r : Int} {M9 : Mm} (hF : f_U_leastRuler n x1 M = some (r, M9)) : Ct LC w y_U_leastRuler b_U_leastRuler 3 (some .int) 1 22 1 [.ref (wa w 3), .int (i32 x1)] M r M9 := by
  refine Ct.of hij KstC (by decide +kernel) (Nat.le_of_ble_eq_true rfl) (fun X G0 => ?_)
  have G := G0.1
  show VJ LC w X 3 1 r M9 M [(0, .ref (wa w 3)), (1, .int (i32 x1))] [] 0
  unfold f_U_leastRuler at hF
  refine vj_iconst G (v := 0) d_U_leastRuler_0 rfl ?_
  refine vj_istore_n G (lv2 := [(2, .int (i32 0)), (0, .ref (wa w 3)), (1, .int (i32 x1))]) d_U_leastRuler_1 rfl (by decide) rfl ?_
  refine vj_sub [1, 2, 0] rfl ?_
  exact wl_U_leastRuler_2 G0 n  n x1 0 hx1 ic_0 _ hF
set_option maxHeartbeats 4000000 in
set_option maxRecDepth 100000 in
theorem wk_U_crown_9 {w : Wd} {X : Cx} {r : Int} {M9 : Mm} (G0 : Gx LC w X "WhoRules$Rule" b_U_crown 5 0 0 none) (n : Nat) (k9 : Int → Int → Int → Mm → Rr) (hk9 : ∀ (x1 x2 x3 : Int) (hx1 : inR x1) (hx2 : inR x2) (hx3 : inR x3) (M : Mm), k9 x1 x2 x3 M = some (r, M9) → VJ LC w X 5 0 r M9 M [(0, .ref (wa w 3)), (1, .int (i32 x1)), (2, .int (i32 x2)), (3, .int (i32 x3))] [] 9) (x1 x2 x3 : Int) (hx1 : inR x1) (hx2 : inR x2) (hx3 : inR x3) (M : Mm) (hF : f_U_crown_9 n k9 x1 x2 x3 M = some (r, M9)) : VJ LC w X 5 0 r M9 M [(0, .ref (wa w 3)), (1, .int (i32 x1)), (2, .int (i32 x2)), (3, .int (i32 x3))] [] 9 := by
  have G := G0.1
  unfold f_U_crown_9 at hF
  refine vj_iload_n G (p9 := 3) d_U_crown_9 rfl rfl ?_
  refine vj_aload_n G (p9 := 0) d_U_crown_10 rfl rfl ?_
  refine gfC_U_46 G d_U_crown_11 ?_
  refine gfC_U_58 G d_U_crown_14 ?_
  refine vj_mr (fun hM1 => ?_)
  refine vj_icmp_ge G (tgt := 58) d_U_crown_17 (by decide) hx3 (mr_o hM1 lkC_1 flC_7_2) (fun c2 => ?_) (fun c2 => ?_)
  · rw [if_pos c2] at hF
    refine vj_aload_n G (p9 := 0) d_U_crown_58 rfl rfl ?_
    refine gfC_U_137 G d_U_crown_59 ?_
    refine vj_mr (fun hM3 => ?_)
    refine vj_bipush G (v := 7) d_U_crown_62 rfl ?_
    refine vj_icmp_ge G (tgt := 87) d_U_crown_64 (by decide) (mr_o hM3 lkC_3 flC_9_13) ic_7 (fun c4 => ?_) (fun c4 => ?_)
    · rw [if_pos c4] at hF
      cases hF
      exact vj_vret G0 d_U_crown_87
    · rw [if_neg c4] at hF
      refine vj_aload_n G (p9 := 0) d_U_crown_67 rfl rfl ?_
      refine gfC_U_43 G d_U_crown_68 ?_
      refine vj_aload_n G (p9 := 0) d_U_crown_71 rfl rfl ?_
      refine gfC_U_137 G d_U_crown_72 ?_
      refine vj_mr (fun hM5 => ?_)
      refine vj_iload_n G (p9 := 1) d_U_crown_75 rfl rfl ?_
      obtain ⟨c6, hF⟩ := ck_some hF
      refine vj_iast G (x := (M 3 13)) lkC_47 (by decide) (by decide) (by decide) c6 hx1 d_U_crown_76 ?_
      refine vj_aload_n G (p9 := 0) d_U_crown_77 rfl rfl ?_
      refine vj_dup G d_U_crown_78 rfl ?_
      refine gfC_U_137 G d_U_crown_79 ?_
      refine vj_mr (fun hM7 => ?_)
      refine vj_iconst G (v := 1) d_U_crown_82 rfl ?_
      refine vj_iadd G d_U_crown_83 ?_
      refine pfC_U_137 G (ir_w _) d_U_crown_84 ?_
      cases hF
      exact vj_vret G0 d_U_crown_87
  · rw [if_neg c2] at hF
    refine vj_aload_n G (p9 := 0) d_U_crown_20 rfl rfl ?_
    refine gfC_U_46 G d_U_crown_21 ?_
    refine gfC_U_63 G d_U_crown_24 ?_
    refine vj_iload_n G (p9 := 3) d_U_crown_27 rfl rfl ?_
    obtain ⟨c8, hF⟩ := ck_some hF
    refine vj_iald G (x := x3) lkC_19 (by decide) c8 d_U_crown_28 ?_
    refine vj_mr (fun hM9 => ?_)
    refine vj_istore G (lv2 := [(4, .int (i32 (M 19 x3.toNat))), (0, .ref (wa w 3)), (1, .int (i32 x1)), (2, .int (i32 x2)), (3, .int (i32 x3))]) d_U_crown_29 (by decide) rfl ?_
    refine vj_aload_n G (p9 := 1) d_U_crown_31 rfl rfl ?_
    refine gfC_U_40 G d_U_crown_32 ?_
    refine vj_iload G (p9 := 0) d_U_crown_35 rfl ?_
    obtain ⟨c10, hF⟩ := ck_some hF
    refine vj_aald5 G (x := (M 19 x3.toNat)) lkC_46 (by decide) c10 d_U_crown_37 ?_
    refine vj_iload_n G (p9 := 3) d_U_crown_38 rfl rfl ?_
    refine vj_dup2_11 G d_U_crown_39 rfl rfl ?_
    obtain ⟨c11, hF⟩ := ck_some hF
    refine vj_iald G (x := x2) (lkC_r150 c10) (by decide) c11 d_U_crown_40 ?_
    refine vj_aload_n G (p9 := 1) d_U_crown_41 rfl rfl ?_
    refine gfC_U_28 G d_U_crown_42 ?_
    refine vj_iload G (p9 := 0) d_U_crown_45 rfl ?_
    obtain ⟨c12, hF⟩ := ck_some hF
    refine vj_aald5 G (x := (M 19 x3.toNat)) lkC_42 (by decide) c12 d_U_crown_47 ?_
    refine vj_iload_n G (p9 := 2) d_U_crown_48 rfl rfl ?_
    obtain ⟨c13, hF⟩ := ck_some hF
    refine vj_iald G (x := x1) (lkC_r130 c12) (by decide) c13 d_U_crown_49 ?_
    refine vj_iadd G d_U_crown_50 ?_
    obtain ⟨c14, hF⟩ := ck_some hF
    refine vj_iast G (x := x2) (lkC_r150 c10) (by decide) (k9_150 c10) (kh_150 c10) c14 (ir_w _) d_U_crown_51 ?_
    refine vj_iinc G (p9 := 4) (n := 1) (lv2 := [(3, .int (i32 (w32 (x3 + 1)))), (4, .int (i32 (M 19 x3.toNat))), (0, .ref (wa w 3)), (1, .int (i32 x1)), (2, .int (i32 x2))]) d_U_crown_52 rfl (by decide) rfl ?_
    refine vj_goto G (tgt := 9) d_U_crown_55 (by decide) ?_
    refine vj_sub [2, 3, 4, 0] rfl ?_
    exact hk9 x1 x2 (w32 (x3 + 1)) hx1 hx2 (ir_w _) _ hF
set_option maxHeartbeats 4000000 in
set_option maxRecDepth 100000 in
theorem wl_U_crown_9 {w : Wd} {X : Cx} {r : Int} {M9 : Mm} (G0 : Gx LC w X "WhoRules$Rule" b_U_crown 5 0 0 none) (n : Nat) : ∀ (f : Nat) (x1 x2 x3 : Int) (hx1 : inR x1) (hx2 : inR x2) (hx3 : inR x3) (M : Mm), lp_U_crown_9 n f x1 x2 x3 M = some (r, M9) → VJ LC w X 5 0 r M9 M [(0, .ref (wa w 3)), (1, .int (i32 x1)), (2, .int (i32 x2)), (3, .int (i32 x3))] [] 9 := by
  intro f
  induction f with
  | zero => intro x1 x2 x3 hx1 hx2 hx3 M hF; cases hF
  | succ f ih => intro x1 x2 x3 hx1 hx2 hx3 M hF; exact wk_U_crown_9 G0 n (lp_U_crown_9 n f) ih x1 x2 x3 hx1 hx2 hx3 M hF
set_option maxHeartbeats 4000000 in
set_option maxRecDepth 100000 in
theorem ct_U_crown {w : Wd} (hij : ij LC w) (n : Nat) (x1 x2 : Int) (hx1 : inR x1) (hx2 : inR x2) {M : Mm} {r : Int} {M9 : Mm} (hF : f_U_crown n x1 x2 M = some (r, M9)) : Ct LC w y_U_crown b_U_crown 5 none 0 0 0 [.ref (wa w 3), .int (i32 x1), .int (i32 x2)] M r M9 := by
  refine Ct.of hij KstC (by decide +kernel) (Nat.le_of_ble_eq_true rfl) (fun X G0 => ?_)
  have G := G0.1
  show VJ LC w X 5 0 r M9 M [(0, .ref (wa w 3)), (1, .int (i32 x1)), (2, .int (i32 x2))] [] 0
  unfold f_U_crown at hF
  refine vj_aload_n G (p9 := 0) d_U_crown_0 rfl rfl ?_
  refine gfC_U_37 G d_U_crown_1 ?_
  refine vj_iload_n G (p9 := 1) d_U_crown_4 rfl rfl ?_
  refine vj_iload_n G (p9 := 2) d_U_crown_5 rfl rfl ?_
  obtain ⟨c1, hF⟩ := ck_some hF
  refine vj_iast G (x := x1) lkC_45 (by decide) (by decide) (by decide) c1 hx2 d_U_crown_6 ?_
  refine vj_iconst G (v := 0) d_U_crown_7 rfl ?_
  refine vj_istore_n G (lv2 := [(3, .int (i32 0)), (0, .ref (wa w 3)), (1, .int (i32 x1)), (2, .int (i32 x2))]) d_U_crown_8 rfl (by decide) rfl ?_
  refine vj_sub [1, 2, 3, 0] rfl ?_
  exact wl_U_crown_9 G0 n  n x1 x2 0 hx1 hx2 ic_0 _ hF
set_option maxHeartbeats 4000000 in
set_option maxRecDepth 100000 in
theorem wk_U_crownsInRound_60 {w : Wd} {X : Cx} {r : Int} {M9 : Mm} (G0 : Gx LC w X "WhoRules$Rule" b_U_crownsInRound 5 2 44 (some .boolean)) (n : Nat) (k4 : Int → Int → Mm → Rr) (hk4 : ∀ (x1 x2 : Int) (hx1 : inB x1) (hx2 : inR x2) (M : Mm), k4 x1 x2 M = some (r, M9) → VJ LC w X 5 3 r M9 M [(0, .ref (wa w 3)), (1, .int (i32 x1)), (2, .int (i32 x2))] [] 4) (x1 x2 : Int) (hx1 : inB x1) (hx2 : inR x2) (M : Mm) (hF : f_U_crownsInRound_60 n k4 x1 x2 M = some (r, M9)) : VJ LC w X 5 3 r M9 M [(0, .ref (wa w 3)), (1, .int (i32 x1)), (2, .int (i32 x2))] [] 60 := by
  have G := G0.1
  unfold f_U_crownsInRound_60 at hF
  refine vj_iinc G (p9 := 2) (n := 1) (lv2 := [(2, .int (i32 (w32 (x2 + 1)))), (0, .ref (wa w 3)), (1, .int (i32 x1))]) d_U_crownsInRound_60 rfl (by decide) rfl ?_
  refine vj_goto G (tgt := 4) d_U_crownsInRound_63 (by decide) ?_
  refine vj_sub [1, 2, 0] rfl ?_
  exact hk4 x1 (w32 (x2 + 1)) hx1 (ir_w _) _ hF
set_option maxHeartbeats 4000000 in
set_option maxRecDepth 100000 in
theorem wk_U_crownsInRound_44 {w : Wd} {X : Cx} {r : Int} {M9 : Mm} (G0 : Gx LC w X "WhoRules$Rule" b_U_crownsInRound 5 2 44 (some .boolean)) (n : Nat) (k4 : Int → Int → Mm → Rr) (hk4 : ∀ (x1 x2 : Int) (hx1 : inB x1) (hx2 : inR x2) (M : Mm), k4 x1 x2 M = some (r, M9) → VJ LC w X 5 3 r M9 M [(0, .ref (wa w 3)), (1, .int (i32 x1)), (2, .int (i32 x2))] [] 4) (x1 x2 x3 s0 : Int) (hx1 : inB x1) (hx2 : inR x2) (hx3 : inR x3) (hs0 : inR s0) (M : Mm) (hF : f_U_crownsInRound_44 n k4 x1 x2 x3 s0 M = some (r, M9)) : VJ LC w X 5 3 r M9 M [(0, .ref (wa w 3)), (1, .int (i32 x1)), (2, .int (i32 x2)), (3, .int (i32 x3))] [.int (i32 s0)] 44 := by
  have G := G0.1
  unfold f_U_crownsInRound_44 at hF
  refine vj_istore G (lv2 := [(4, .int (i32 s0)), (0, .ref (wa w 3)), (1, .int (i32 x1)), (2, .int (i32 x2)), (3, .int (i32 x3))]) d_U_crownsInRound_44 (by decide) rfl ?_
  refine vj_iload G (p9 := 0) d_U_crownsInRound_46 rfl ?_
  refine vj_if_lt G (tgt := 60) d_U_crownsInRound_48 (by decide) hs0 (fun c1 => ?_) (fun c1 => ?_)
  · rw [if_pos c1] at hF
    refine vj_sub [1, 2, 3] rfl ?_
    exact wk_U_crownsInRound_60 G0 n k4 hk4 x1 x2 hx1 hx2 _ hF
  · rw [if_neg c1] at hF
    refine vj_aload_n G (p9 := 1) d_U_crownsInRound_51 rfl rfl ?_
    refine vj_iload_n G (p9 := 4) d_U_crownsInRound_52 rfl rfl ?_
    refine vj_iload G (p9 := 0) d_U_crownsInRound_53 rfl ?_
    obtain ⟨r2, M2, e2, hF⟩ := bnd_some hF
    refine vj_callV0 G (ct_U_crown (gx_ij G) n x3 s0 hx3 hs0 e2) lkC_3 clC_9 rfl q_886 cq_U_crown rfl (by decide) (by decide) (Nat.le_of_ble_eq_true rfl) d_U_crownsInRound_55 rfl (fun hr2 => ?_)
    refine vj_iconst G (v := 1) d_U_crownsInRound_58 rfl ?_
    refine vj_istore_n G (lv2 := [(1, .int (i32 1)), (4, .int (i32 s0)), (0, .ref (wa w 3)), (2, .int (i32 x2)), (3, .int (i32 x3))]) d_U_crownsInRound_59 rfl (by decide) rfl ?_
    refine vj_sub [2, 0, 3] rfl ?_
    exact wk_U_crownsInRound_60 G0 n k4 hk4 1 x2 (Or.inr rfl) hx2 _ hF
set_option maxHeartbeats 4000000 in
set_option maxRecDepth 100000 in
theorem wk_U_crownsInRound_4 {w : Wd} {X : Cx} {r : Int} {M9 : Mm} (G0 : Gx LC w X "WhoRules$Rule" b_U_crownsInRound 5 2 44 (some .boolean)) (n : Nat) (k4 : Int → Int → Mm → Rr) (hk4 : ∀ (x1 x2 : Int) (hx1 : inB x1) (hx2 : inR x2) (M : Mm), k4 x1 x2 M = some (r, M9) → VJ LC w X 5 3 r M9 M [(0, .ref (wa w 3)), (1, .int (i32 x1)), (2, .int (i32 x2))] [] 4) (x1 x2 : Int) (hx1 : inB x1) (hx2 : inR x2) (M : Mm) (hF : f_U_crownsInRound_4 n k4 x1 x2 M = some (r, M9)) : VJ LC w X 5 3 r M9 M [(0, .ref (wa w 3)), (1, .int (i32 x1)), (2, .int (i32 x2))] [] 4 := by
  have G := G0.1
  unfold f_U_crownsInRound_4 at hF
  refine vj_iload_n G (p9 := 2) d_U_crownsInRound_4 rfl rfl ?_
  refine vj_aload_n G (p9 := 0) d_U_crownsInRound_5 rfl rfl ?_
  refine gfC_U_46 G d_U_crownsInRound_6 ?_
  refine gfC_U_58 G d_U_crownsInRound_9 ?_
  refine vj_mr (fun hM1 => ?_)
  refine vj_icmp_ge G (tgt := 66) d_U_crownsInRound_12 (by decide) hx2 (mr_o hM1 lkC_1 flC_7_2) (fun c2 => ?_) (fun c2 => ?_)
  · rw [if_pos c2] at hF
    refine vj_iload_n G (p9 := 1) d_U_crownsInRound_66 rfl rfl ?_
    cases hF
    exact vj_zret G0 hx1 d_U_crownsInRound_67
  · rw [if_neg c2] at hF
    refine vj_aload_n G (p9 := 0) d_U_crownsInRound_15 rfl rfl ?_
    refine gfC_U_46 G d_U_crownsInRound_16 ?_
    refine gfC_U_63 G d_U_crownsInRound_19 ?_
    refine vj_iload_n G (p9 := 2) d_U_crownsInRound_22 rfl rfl ?_
    obtain ⟨c3, hF⟩ := ck_some hF
    refine vj_iald G (x := x2) lkC_19 (by decide) c3 d_U_crownsInRound_23 ?_
    refine vj_mr (fun hM4 => ?_)
    refine vj_istore_n G (lv2 := [(3, .int (i32 (M 19 x2.toNat))), (0, .ref (wa w 3)), (1, .int (i32 x1)), (2, .int (i32 x2))]) d_U_crownsInRound_24 rfl (by decide) rfl ?_
    refine vj_aload_n G (p9 := 1) d_U_crownsInRound_25 rfl rfl ?_
    refine gfC_U_37 G d_U_crownsInRound_26 ?_
    refine vj_iload_n G (p9 := 0) d_U_crownsInRound_29 rfl rfl ?_
    obtain ⟨c5, hF⟩ := ck_some hF
    refine vj_iald G (x := (M 19 x2.toNat)) lkC_45 (by decide) c5 d_U_crownsInRound_30 ?_
    refine vj_if_ge G (tgt := 42) d_U_crownsInRound_31 (by decide) (mr_a hM4 lkC_45) (fun c6 => ?_) (fun c6 => ?_)
    · rw [if_pos c6] at hF
      refine vj_bipush G (v := (-5)) d_U_crownsInRound_42 rfl ?_
      refine vj_sub [1, 2, 3, 0] rfl ?_
      exact wk_U_crownsInRound_44 G0 n k4 hk4 x1 x2 (M 19 x2.toNat) (-5) hx1 hx2 (mr_a hM4 lkC_19) ic_m5 _ hF
    · rw [if_neg c6] at hF
      refine vj_aload_n G (p9 := 1) d_U_crownsInRound_34 rfl rfl ?_
      refine vj_iload_n G (p9 := 0) d_U_crownsInRound_35 rfl rfl ?_
      obtain ⟨r7, M7, e7, hF⟩ := bnd_some hF
      refine vj_callV1 G (ct_U_leastRuler (gx_ij G) n (M 19 x2.toNat) (mr_a hM4 lkC_19) e7) lkC_3 clC_9 rfl q_878 cq_U_leastRuler rfl (by decide) (by decide) (Nat.le_of_ble_eq_true rfl) d_U_crownsInRound_36 rfl (fun hr7 => ?_)
      refine vj_goto G (tgt := 44) d_U_crownsInRound_39 (by decide) ?_
      refine vj_sub [1, 2, 3, 0] rfl ?_
      exact wk_U_crownsInRound_44 G0 n k4 hk4 x1 x2 (M 19 x2.toNat) r7 hx1 hx2 (mr_a hM4 lkC_19) hr7 _ hF
set_option maxHeartbeats 4000000 in
set_option maxRecDepth 100000 in
theorem wl_U_crownsInRound_4 {w : Wd} {X : Cx} {r : Int} {M9 : Mm} (G0 : Gx LC w X "WhoRules$Rule" b_U_crownsInRound 5 2 44 (some .boolean)) (n : Nat) : ∀ (f : Nat) (x1 x2 : Int) (hx1 : inB x1) (hx2 : inR x2) (M : Mm), lp_U_crownsInRound_4 n f x1 x2 M = some (r, M9) → VJ LC w X 5 3 r M9 M [(0, .ref (wa w 3)), (1, .int (i32 x1)), (2, .int (i32 x2))] [] 4 := by
  intro f
  induction f with
  | zero => intro x1 x2 hx1 hx2 M hF; cases hF
  | succ f ih => intro x1 x2 hx1 hx2 M hF; exact wk_U_crownsInRound_4 G0 n (lp_U_crownsInRound_4 n f) ih x1 x2 hx1 hx2 M hF
set_option maxHeartbeats 4000000 in
set_option maxRecDepth 100000 in
theorem ct_U_crownsInRound {w : Wd} (hij : ij LC w) (n : Nat) {M : Mm} {r : Int} {M9 : Mm} (hF : f_U_crownsInRound n  M = some (r, M9)) : Ct LC w y_U_crownsInRound b_U_crownsInRound 5 (some .boolean) 2 44 3 [.ref (wa w 3)] M r M9 := by
  refine Ct.of hij KstC (by decide +kernel) (Nat.le_of_ble_eq_true rfl) (fun X G0 => ?_)
  have G := G0.1
  show VJ LC w X 5 3 r M9 M [(0, .ref (wa w 3))] [] 0
  unfold f_U_crownsInRound at hF
  refine vj_iconst G (v := 0) d_U_crownsInRound_0 rfl ?_
  refine vj_istore_n G (lv2 := [(1, .int (i32 0)), (0, .ref (wa w 3))]) d_U_crownsInRound_1 rfl (by decide) rfl ?_
  refine vj_iconst G (v := 0) d_U_crownsInRound_2 rfl ?_
  refine vj_istore_n G (lv2 := [(2, .int (i32 0)), (1, .int (i32 0)), (0, .ref (wa w 3))]) d_U_crownsInRound_3 rfl (by decide) rfl ?_
  refine vj_sub [2, 1, 0] rfl ?_
  exact wl_U_crownsInRound_4 G0 n  n 0 0 (Or.inl rfl) ic_0 _ hF
set_option maxHeartbeats 4000000 in
set_option maxRecDepth 100000 in
theorem wk_U_least_12 {w : Wd} {X : Cx} {r : Int} {M9 : Mm} (G0 : Gx LC w X "WhoRules$Rule" b_U_least 3 3 68 none) (n : Nat) (k12 : Int → Int → Mm → Rr) (hk12 : ∀ (x1 x2 : Int) (hx1 : inB x1) (hx2 : inR x2) (M : Mm), k12 x1 x2 M = some (r, M9) → VJ LC w X 3 0 r M9 M [(0, .ref (wa w 3)), (1, .int (i32 x1)), (2, .int (i32 x2))] [] 12) (x1 x2 : Int) (hx1 : inB x1) (hx2 : inR x2) (M : Mm) (hF : f_U_least_12 n k12 x1 x2 M = some (r, M9)) : VJ LC w X 3 0 r M9 M [(0, .ref (wa w 3)), (1, .int (i32 x1)), (2, .int (i32 x2))] [] 12 := by
  have G := G0.1
  unfold f_U_least_12 at hF
  refine vj_iload_n G (p9 := 2) d_U_least_12 rfl rfl ?_
  refine vj_bipush G (v := 7) d_U_least_13 rfl ?_
  refine vj_icmp_gt G (tgt := 33) d_U_least_15 (by decide) hx2 ic_7 (fun c1 => ?_) (fun c1 => ?_)
  · rw [if_pos c1] at hF
    cases hF
    exact vj_vret G0 d_U_least_33
  · rw [if_neg c1] at hF
    refine vj_iload_n G (p9 := 1) d_U_least_18 rfl rfl ?_
    refine vj_if_eq G (tgt := 33) d_U_least_19 (by decide) (ir_b hx1) (fun c2 => ?_) (fun c2 => ?_)
    · rw [if_pos c2] at hF
      cases hF
      exact vj_vret G0 d_U_least_33
    · rw [if_neg c2] at hF
      refine vj_aload_n G (p9 := 0) d_U_least_22 rfl rfl ?_
      obtain ⟨r3, M3, e3, hF⟩ := bnd_some hF
      refine vj_callV3 G (ct_U_crownsInRound (gx_ij G) n   e3) lkC_3 clC_9 rfl q_874 cq_U_crownsInRound rfl (by decide) (by decide) (Nat.le_of_ble_eq_true rfl) d_U_least_23 rfl (fun hr3 => ?_)
      refine vj_istore_n G (lv2 := [(1, .int (i32 r3)), (0, .ref (wa w 3)), (2, .int (i32 x2))]) d_U_least_26 rfl (by decide) rfl ?_
      refine vj_iinc G (p9 := 2) (n := 1) (lv2 := [(2, .int (i32 (w32 (x2 + 1)))), (1, .int (i32 r3)), (0, .ref (wa w 3))]) d_U_least_27 rfl (by decide) rfl ?_
      refine vj_goto G (tgt := 12) d_U_least_30 (by decide) ?_
      refine vj_sub [2, 1, 0] rfl ?_
      exact hk12 r3 (w32 (x2 + 1)) hr3 (ir_w _) _ hF
set_option maxHeartbeats 4000000 in
set_option maxRecDepth 100000 in
theorem wl_U_least_12 {w : Wd} {X : Cx} {r : Int} {M9 : Mm} (G0 : Gx LC w X "WhoRules$Rule" b_U_least 3 3 68 none) (n : Nat) : ∀ (f : Nat) (x1 x2 : Int) (hx1 : inB x1) (hx2 : inR x2) (M : Mm), lp_U_least_12 n f x1 x2 M = some (r, M9) → VJ LC w X 3 0 r M9 M [(0, .ref (wa w 3)), (1, .int (i32 x1)), (2, .int (i32 x2))] [] 12 := by
  intro f
  induction f with
  | zero => intro x1 x2 hx1 hx2 M hF; cases hF
  | succ f ih => intro x1 x2 hx1 hx2 M hF; exact wk_U_least_12 G0 n (lp_U_least_12 n f) ih x1 x2 hx1 hx2 M hF
set_option maxHeartbeats 4000000 in
set_option maxRecDepth 100000 in
theorem ct_U_least {w : Wd} (hij : ij LC w) (n : Nat) {M : Mm} {r : Int} {M9 : Mm} (hF : f_U_least n  M = some (r, M9)) : Ct LC w y_U_least b_U_least 3 none 3 68 0 [.ref (wa w 3)] M r M9 := by
  refine Ct.of hij KstC (by decide +kernel) (Nat.le_of_ble_eq_true rfl) (fun X G0 => ?_)
  have G := G0.1
  show VJ LC w X 3 0 r M9 M [(0, .ref (wa w 3))] [] 0
  unfold f_U_least at hF
  refine vj_aload_n G (p9 := 0) d_U_least_0 rfl rfl ?_
  obtain ⟨r1, M1, e1, hF⟩ := bnd_some hF
  refine vj_callV0 G (ct_U_tally (gx_ij G) n   e1) lkC_3 clC_9 rfl q_868 cq_U_tally rfl (by decide) (by decide) (Nat.le_of_ble_eq_true rfl) d_U_least_1 rfl (fun hr1 => ?_)
  refine vj_aload_n G (p9 := 0) d_U_least_4 rfl rfl ?_
  obtain ⟨r2, M2, e2, hF⟩ := bnd_some hF
  refine vj_callV0 G (ct_U_clear (gx_ij G) n   e2) lkC_3 clC_9 rfl q_869 cq_U_clear rfl (by decide) (by decide) (Nat.le_of_ble_eq_true rfl) d_U_least_5 rfl (fun hr2 => ?_)
  refine vj_iconst G (v := 1) d_U_least_8 rfl ?_
  refine vj_istore_n G (lv2 := [(1, .int (i32 1)), (0, .ref (wa w 3))]) d_U_least_9 rfl (by decide) rfl ?_
  refine vj_iconst G (v := 0) d_U_least_10 rfl ?_
  refine vj_istore_n G (lv2 := [(2, .int (i32 0)), (1, .int (i32 1)), (0, .ref (wa w 3))]) d_U_least_11 rfl (by decide) rfl ?_
  refine vj_sub [2, 1, 0] rfl ?_
  exact wl_U_least_12 G0 n  n 1 0 (Or.inr rfl) ic_0 _ hF
set_option maxHeartbeats 4000000 in
set_option maxRecDepth 100000 in
theorem ct_W_ruler {w : Wd} (hij : ij LC w) (n : Nat) (x1 x2 : Int) (hx1 : inR x1) (hx2 : inR x2) {M : Mm} {r : Int} {M9 : Mm} (hF : f_W_ruler n x1 x2 M = some (r, M9)) : Ct LC w y_W_ruler b_W_ruler 3 (some .int) 5 125 1 [.ref (wa w 0), .int (i32 x1), .int (i32 x2)] M r M9 := by
  refine Ct.of hij KstC (by decide +kernel) (Nat.le_of_ble_eq_true rfl) (fun X G0 => ?_)
  have G := G0.1
  show VJ LC w X 3 1 r M9 M [(0, .ref (wa w 0)), (1, .int (i32 x1)), (2, .int (i32 x2))] [] 0
  unfold f_W_ruler at hF
  refine vj_aload_n G (p9 := 0) d_W_ruler_0 rfl rfl ?_
  refine gfC_W_18 G d_W_ruler_1 ?_
  refine vj_iload_n G (p9 := 1) d_W_ruler_4 rfl rfl ?_
  obtain ⟨r1, M1, e1, hF⟩ := bnd_some hF
  refine vj_callV3 G (ct_R_isFirm (gx_ij G) n x1 hx1 e1) lkC_1 clC_7 rfl q_592 cq_R_isFirm rfl (by decide) (by decide) (Nat.le_of_ble_eq_true rfl) d_W_ruler_5 rfl (fun hr1 => ?_)
  refine vj_if_eq G (tgt := 18) d_W_ruler_8 (by decide) (ir_b hr1) (fun c2 => ?_) (fun c2 => ?_)
  · rw [if_pos c2] at hF
    refine vj_iconst G (v := (-1)) d_W_ruler_18 rfl ?_
    cases hF
    exact vj_iret G0 ic_m1 d_W_ruler_19
  · rw [if_neg c2] at hF
    refine vj_iload_n G (p9 := 2) d_W_ruler_11 rfl rfl ?_
    obtain ⟨r3, M3, e3, hF⟩ := bnd_some hF
    refine vj_callS3 G (ct_W_isDay (gx_ij G) n x2 hx2 e3) q_639 cq_W_isDay rfl (by decide) (by decide) (Nat.le_of_ble_eq_true rfl) d_W_ruler_12 rfl (fun hr3 => ?_)
    refine vj_if_ne G (tgt := 20) d_W_ruler_15 (by decide) (ir_b hr3) (fun c4 => ?_) (fun c4 => ?_)
    · rw [if_pos c4] at hF
      refine vj_aload_n G (p9 := 0) d_W_ruler_20 rfl rfl ?_
      refine gfC_W_34 G d_W_ruler_21 ?_
      refine vj_iload_n G (p9 := 2) d_W_ruler_24 rfl rfl ?_
      obtain ⟨r5, M5, e5, hF⟩ := bnd_some hF
      refine vj_callV0 G (ct_U_look (gx_ij G) n x2 hx2 e5) lkC_3 clC_9 rfl q_775 cq_U_look rfl (by decide) (by decide) (Nat.le_of_ble_eq_true rfl) d_W_ruler_25 rfl (fun hr5 => ?_)
      refine vj_aload_n G (p9 := 0) d_W_ruler_28 rfl rfl ?_
      refine gfC_W_34 G d_W_ruler_29 ?_
      obtain ⟨r6, M6, e6, hF⟩ := bnd_some hF
      refine vj_callV0 G (ct_U_least (gx_ij G) n   e6) lkC_3 clC_9 rfl q_864 cq_U_least rfl (by decide) (by decide) (Nat.le_of_ble_eq_true rfl) d_W_ruler_32 rfl (fun hr6 => ?_)
      refine vj_aload_n G (p9 := 0) d_W_ruler_35 rfl rfl ?_
      refine gfC_W_34 G d_W_ruler_36 ?_
      refine gfC_W_190 G d_W_ruler_39 ?_
      refine vj_iload_n G (p9 := 1) d_W_ruler_42 rfl rfl ?_
      obtain ⟨c7, hF⟩ := ck_some hF
      refine vj_iald G (x := x1) lkC_45 (by decide) c7 d_W_ruler_43 ?_
      refine vj_mr (fun hM8 => ?_)
      cases hF
      exact vj_iret G0 (mr_a hM8 lkC_45) d_W_ruler_44
    · rw [if_neg c4] at hF
      refine vj_iconst G (v := (-1)) d_W_ruler_18 rfl ?_
      cases hF
      exact vj_iret G0 ic_m1 d_W_ruler_19
set_option maxHeartbeats 4000000 in
set_option maxRecDepth 100000 in
theorem ct_W_step {w : Wd} (hij : ij LC w) (n : Nat) (x1 x2 : Int) (hx1 : inR x1) (hx2 : inR x2) {M : Mm} {r : Int} {M9 : Mm} (hF : f_W_step n x1 x2 M = some (r, M9)) : Ct LC w y_W_step b_W_step 3 (some .int) 5 125 1 [.ref (wa w 0), .int (i32 x1), .int (i32 x2)] M r M9 := by
  refine Ct.of hij KstC (by decide +kernel) (Nat.le_of_ble_eq_true rfl) (fun X G0 => ?_)
  have G := G0.1
  show VJ LC w X 3 1 r M9 M [(0, .ref (wa w 0)), (1, .int (i32 x1)), (2, .int (i32 x2))] [] 0
  unfold f_W_step at hF
  refine vj_iload_n G (p9 := 1) d_W_step_0 rfl rfl ?_
  obtain ⟨r1, M1, e1, hF⟩ := bnd_some hF
  refine vj_callS3 G (ct_W_isDay (gx_ij G) n x1 hx1 e1) q_639 cq_W_isDay rfl (by decide) (by decide) (Nat.le_of_ble_eq_true rfl) d_W_step_1 rfl (fun hr1 => ?_)
  refine vj_if_eq G (tgt := 12) d_W_step_4 (by decide) (ir_b hr1) (fun c2 => ?_) (fun c2 => ?_)
  · rw [if_pos c2] at hF
    refine vj_iconst G (v := (-1)) d_W_step_12 rfl ?_
    cases hF
    exact vj_iret G0 ic_m1 d_W_step_13
  · rw [if_neg c2] at hF
    refine vj_iload_n G (p9 := 2) d_W_step_7 rfl rfl ?_
    refine vj_iconst G (v := (-1)) d_W_step_8 rfl ?_
    refine vj_icmp_ge G (tgt := 14) d_W_step_9 (by decide) hx2 ic_m1 (fun c3 => ?_) (fun c3 => ?_)
    · rw [if_pos c3] at hF
      refine vj_aload_n G (p9 := 0) d_W_step_14 rfl rfl ?_
      refine gfC_W_34 G d_W_step_15 ?_
      refine vj_iload_n G (p9 := 1) d_W_step_18 rfl rfl ?_
      obtain ⟨r4, M4, e4, hF⟩ := bnd_some hF
      refine vj_callV0 G (ct_U_look (gx_ij G) n x1 hx1 e4) lkC_3 clC_9 rfl q_775 cq_U_look rfl (by decide) (by decide) (Nat.le_of_ble_eq_true rfl) d_W_step_19 rfl (fun hr4 => ?_)
      refine vj_aload_n G (p9 := 0) d_W_step_22 rfl rfl ?_
      refine gfC_W_34 G d_W_step_23 ?_
      obtain ⟨r5, M5, e5, hF⟩ := bnd_some hF
      refine vj_callV0 G (ct_U_least (gx_ij G) n   e5) lkC_3 clC_9 rfl q_864 cq_U_least rfl (by decide) (by decide) (Nat.le_of_ble_eq_true rfl) d_W_step_26 rfl (fun hr5 => ?_)
      refine vj_iload_n G (p9 := 2) d_W_step_29 rfl rfl ?_
      refine vj_iconst G (v := (-1)) d_W_step_30 rfl ?_
      refine vj_icmp_ne G (tgt := 42) d_W_step_31 (by decide) hx2 ic_m1 (fun c6 => ?_) (fun c6 => ?_)
      · rw [if_pos c6] at hF
        refine vj_iload_n G (p9 := 2) d_W_step_42 rfl rfl ?_
        refine vj_aload_n G (p9 := 0) d_W_step_43 rfl rfl ?_
        refine gfC_W_34 G d_W_step_44 ?_
        refine gfC_W_193 G d_W_step_47 ?_
        refine vj_mr (fun hM7 => ?_)
        refine vj_icmp_ge G (tgt := 65) d_W_step_50 (by decide) hx2 (mr_o hM7 lkC_3 flC_9_13) (fun c8 => ?_) (fun c8 => ?_)
        · rw [if_pos c8] at hF
          refine vj_iconst G (v := (-1)) d_W_step_65 rfl ?_
          cases hF
          exact vj_iret G0 ic_m1 d_W_step_66
        · rw [if_neg c8] at hF
          refine vj_aload_n G (p9 := 0) d_W_step_53 rfl rfl ?_
          refine gfC_W_34 G d_W_step_54 ?_
          refine gfC_W_196 G d_W_step_57 ?_
          refine vj_iload_n G (p9 := 2) d_W_step_60 rfl rfl ?_
          obtain ⟨c9, hF⟩ := ck_some hF
          refine vj_iald G (x := x2) lkC_47 (by decide) c9 d_W_step_61 ?_
          refine vj_mr (fun hM10 => ?_)
          refine vj_goto G (tgt := 66) d_W_step_62 (by decide) ?_
          cases hF
          exact vj_iret G0 (mr_a hM10 lkC_47) d_W_step_66
      · rw [if_neg c6] at hF
        refine vj_aload_n G (p9 := 0) d_W_step_34 rfl rfl ?_
        refine gfC_W_34 G d_W_step_35 ?_
        refine gfC_W_193 G d_W_step_38 ?_
        refine vj_mr (fun hM11 => ?_)
        cases hF
        exact vj_iret G0 (mr_o hM11 lkC_3 flC_9_13) d_W_step_41
    · rw [if_neg c3] at hF
      refine vj_iconst G (v := (-1)) d_W_step_12 rfl ?_
      cases hF
      exact vj_iret G0 ic_m1 d_W_step_13
set_option maxHeartbeats 4000000 in
set_option maxRecDepth 100000 in
theorem wk_S_setsWithWhich_183 {w : Wd} {X : Cx} {r : Int} {M9 : Mm} (G0 : Gx LC w X "WhoRules$Search" b_S_setsWithWhich 10 0 0 (some .int)) (n : Nat) (k40 : Int → Int → Int → Int → Int → Int → Mm → Rr) (hk40 : ∀ (x1 x2 x3 x4 x5 x6 : Int) (hx1 : inR x1) (hx2 : inR x2) (hx3 : inR x3) (hx4 : inB x4) (hx5 : inR x5) (hx6 : inR x6) (M : Mm), k40 x1 x2 x3 x4 x5 x6 M = some (r, M9) → VJ LC w X 10 1 r M9 M [(0, .ref (wa w 4)), (1, .int (i32 x1)), (2, .int (i32 x2)), (3, .int (i32 x3)), (4, .int (i32 x4)), (5, .int (i32 x5)), (6, .int (i32 x6))] [] 40) (x1 x2 x3 x4 x6 s0 s1 : Int) (hx1 : inR x1) (hx2 : inR x2) (hx3 : inR x3) (hx4 : inB x4) (hx6 : inR x6) (hs0 : inR s0) (hs1 : inR s1) (M : Mm) (hF : f_S_setsWithWhich_183 n k40 x1 x2 x3 x4 x6 s0 s1 M = some (r, M9)) : VJ LC w X 10 1 r M9 M [(0, .ref (wa w 4)), (1, .int (i32 x1)), (2, .int (i32 x2)), (3, .int (i32 x3)), (4, .int (i32 x4)), (6, .int (i32 x6))] [.int (i32 s1), .int (i32 s0)] 183 := by
  have G := G0.1
  unfold f_S_setsWithWhich_183 at hF
  refine vj_ior G d_S_setsWithWhich_183 ?_
  refine vj_istore G (lv2 := [(5, .int (i32 (ior s0 s1))), (0, .ref (wa w 4)), (1, .int (i32 x1)), (2, .int (i32 x2)), (3, .int (i32 x3)), (4, .int (i32 x4)), (6, .int (i32 x6))]) d_S_setsWithWhich_184 (by decide) rfl ?_
  refine vj_iinc G (p9 := 6) (n := 1) (lv2 := [(6, .int (i32 (w32 (x6 + 1)))), (5, .int (i32 (ior s0 s1))), (0, .ref (wa w 4)), (1, .int (i32 x1)), (2, .int (i32 x2)), (3, .int (i32 x3)), (4, .int (i32 x4))]) d_S_setsWithWhich_186 rfl (by decide) rfl ?_
  refine vj_goto G (tgt := 40) d_S_setsWithWhich_189 (by decide) ?_
  refine vj_sub [2, 3, 4, 5, 6, 1, 0] rfl ?_
  exact hk40 x1 x2 x3 x4 (ior s0 s1) (w32 (x6 + 1)) hx1 hx2 hx3 hx4 (ir_or _ _) (ir_w _) _ hF
set_option maxHeartbeats 4000000 in
set_option maxRecDepth 100000 in
theorem wk_S_setsWithWhich_182 {w : Wd} {X : Cx} {r : Int} {M9 : Mm} (G0 : Gx LC w X "WhoRules$Search" b_S_setsWithWhich 10 0 0 (some .int)) (n : Nat) (k40 : Int → Int → Int → Int → Int → Int → Mm → Rr) (hk40 : ∀ (x1 x2 x3 x4 x5 x6 : Int) (hx1 : inR x1) (hx2 : inR x2) (hx3 : inR x3) (hx4 : inB x4) (hx5 : inR x5) (hx6 : inR x6) (M : Mm), k40 x1 x2 x3 x4 x5 x6 M = some (r, M9) → VJ LC w X 10 1 r M9 M [(0, .ref (wa w 4)), (1, .int (i32 x1)), (2, .int (i32 x2)), (3, .int (i32 x3)), (4, .int (i32 x4)), (5, .int (i32 x5)), (6, .int (i32 x6))] [] 40) (x1 x2 x3 x4 x6 s0 : Int) (hx1 : inR x1) (hx2 : inR x2) (hx3 : inR x3) (hx4 : inB x4) (hx6 : inR x6) (hs0 : inR s0) (M : Mm) (hF : f_S_setsWithWhich_182 n k40 x1 x2 x3 x4 x6 s0 M = some (r, M9)) : VJ LC w X 10 1 r M9 M [(0, .ref (wa w 4)), (1, .int (i32 x1)), (2, .int (i32 x2)), (3, .int (i32 x3)), (4, .int (i32 x4)), (6, .int (i32 x6))] [.int (i32 s0)] 182 := by
  have G := G0.1
  unfold f_S_setsWithWhich_182 at hF
  refine vj_iconst G (v := 0) d_S_setsWithWhich_182 rfl ?_
  exact wk_S_setsWithWhich_183 G0 n k40 hk40 x1 x2 x3 x4 x6 s0 0 hx1 hx2 hx3 hx4 hx6 hs0 ic_0 _ hF
set_option maxHeartbeats 4000000 in
set_option maxRecDepth 100000 in
theorem wk_S_setsWithWhich_148 {w : Wd} {X : Cx} {r : Int} {M9 : Mm} (G0 : Gx LC w X "WhoRules$Search" b_S_setsWithWhich 10 0 0 (some .int)) (n : Nat) (k40 : Int → Int → Int → Int → Int → Int → Mm → Rr) (hk40 : ∀ (x1 x2 x3 x4 x5 x6 : Int) (hx1 : inR x1) (hx2 : inR x2) (hx3 : inR x3) (hx4 : inB x4) (hx5 : inR x5) (hx6 : inR x6) (M : Mm), k40 x1 x2 x3 x4 x5 x6 M = some (r, M9) → VJ LC w X 10 1 r M9 M [(0, .ref (wa w 4)), (1, .int (i32 x1)), (2, .int (i32 x2)), (3, .int (i32 x3)), (4, .int (i32 x4)), (5, .int (i32 x5)), (6, .int (i32 x6))] [] 40) (k74 : Int → Int → Int → Int → Int → Int → Int → Int → Int → Mm → Rr) (hk74 : ∀ (x1 x2 x3 x4 x5 x6 x7 x8 x9 : Int) (hx1 : inR x1) (hx2 : inR x2) (hx3 : inR x3) (hx4 : inB x4) (hx5 : inR x5) (hx6 : inR x6) (hx7 : inR x7) (hx8 : inB x8) (hx9 : inR x9) (M : Mm), k74 x1 x2 x3 x4 x5 x6 x7 x8 x9 M = some (r, M9) → VJ LC w X 10 1 r M9 M [(0, .ref (wa w 4)), (1, .int (i32 x1)), (2, .int (i32 x2)), (3, .int (i32 x3)), (4, .int (i32 x4)), (5, .int (i32 x5)), (6, .int (i32 x6)), (7, .int (i32 x7)), (8, .int (i32 x8)), (9, .int (i32 x9))] [] 74) (x1 x2 x3 x4 x5 x6 x7 x8 x9 : Int) (hx1 : inR x1) (hx2 : inR x2) (hx3 : inR x3) (hx4 : inB x4) (hx5 : inR x5) (hx6 : inR x6) (hx7 : inR x7) (hx8 : inB x8) (hx9 : inR x9) (M : Mm) (hF : f_S_setsWithWhich_148 n k40 k74 x1 x2 x3 x4 x5 x6 x7 x8 x9 M = some (r, M9)) : VJ LC w X 10 1 r M9 M [(0, .ref (wa w 4)), (1, .int (i32 x1)), (2, .int (i32 x2)), (3, .int (i32 x3)), (4, .int (i32 x4)), (5, .int (i32 x5)), (6, .int (i32 x6)), (7, .int (i32 x7)), (8, .int (i32 x8)), (9, .int (i32 x9))] [] 148 := by
  have G := G0.1
  unfold f_S_setsWithWhich_148 at hF
  refine vj_iinc G (p9 := 9) (n := 1) (lv2 := [(9, .int (i32 (w32 (x9 + 1)))), (0, .ref (wa w 4)), (1, .int (i32 x1)), (2, .int (i32 x2)), (3, .int (i32 x3)), (4, .int (i32 x4)), (5, .int (i32 x5)), (6, .int (i32 x6)), (7, .int (i32 x7)), (8, .int (i32 x8))]) d_S_setsWithWhich_148 rfl (by decide) rfl ?_
  refine vj_goto G (tgt := 74) d_S_setsWithWhich_151 (by decide) ?_
  refine vj_sub [1, 2, 3, 4, 5, 6, 7, 8, 9, 0] rfl ?_
  exact hk74 x1 x2 x3 x4 x5 x6 x7 x8 (w32 (x9 + 1)) hx1 hx2 hx3 hx4 hx5 hx6 hx7 hx8 (ir_w _) _ hF
set_option maxHeartbeats 4000000 in
set_option maxRecDepth 100000 in
theorem wk_S_setsWithWhich_146 {w : Wd} {X : Cx} {r : Int} {M9 : Mm} (G0 : Gx LC w X "WhoRules$Search" b_S_setsWithWhich 10 0 0 (some .int)) (n : Nat) (k40 : Int → Int → Int → Int → Int → Int → Mm → Rr) (hk40 : ∀ (x1 x2 x3 x4 x5 x6 : Int) (hx1 : inR x1) (hx2 : inR x2) (hx3 : inR x3) (hx4 : inB x4) (hx5 : inR x5) (hx6 : inR x6) (M : Mm), k40 x1 x2 x3 x4 x5 x6 M = some (r, M9) → VJ LC w X 10 1 r M9 M [(0, .ref (wa w 4)), (1, .int (i32 x1)), (2, .int (i32 x2)), (3, .int (i32 x3)), (4, .int (i32 x4)), (5, .int (i32 x5)), (6, .int (i32 x6))] [] 40) (k74 : Int → Int → Int → Int → Int → Int → Int → Int → Int → Mm → Rr) (hk74 : ∀ (x1 x2 x3 x4 x5 x6 x7 x8 x9 : Int) (hx1 : inR x1) (hx2 : inR x2) (hx3 : inR x3) (hx4 : inB x4) (hx5 : inR x5) (hx6 : inR x6) (hx7 : inR x7) (hx8 : inB x8) (hx9 : inR x9) (M : Mm), k74 x1 x2 x3 x4 x5 x6 x7 x8 x9 M = some (r, M9) → VJ LC w X 10 1 r M9 M [(0, .ref (wa w 4)), (1, .int (i32 x1)), (2, .int (i32 x2)), (3, .int (i32 x3)), (4, .int (i32 x4)), (5, .int (i32 x5)), (6, .int (i32 x6)), (7, .int (i32 x7)), (8, .int (i32 x8)), (9, .int (i32 x9))] [] 74) (x1 x2 x3 x4 x5 x6 x7 x9 s0 : Int) (hx1 : inR x1) (hx2 : inR x2) (hx3 : inR x3) (hx4 : inB x4) (hx5 : inR x5) (hx6 : inR x6) (hx7 : inR x7) (hx9 : inR x9) (hs0 : inB s0) (M : Mm) (hF : f_S_setsWithWhich_146 n k40 k74 x1 x2 x3 x4 x5 x6 x7 x9 s0 M = some (r, M9)) : VJ LC w X 10 1 r M9 M [(0, .ref (wa w 4)), (1, .int (i32 x1)), (2, .int (i32 x2)), (3, .int (i32 x3)), (4, .int (i32 x4)), (5, .int (i32 x5)), (6, .int (i32 x6)), (7, .int (i32 x7)), (9, .int (i32 x9))] [.int (i32 s0)] 146 := by
  have G := G0.1
  unfold f_S_setsWithWhich_146 at hF
  refine vj_istore G (lv2 := [(8, .int (i32 s0)), (0, .ref (wa w 4)), (1, .int (i32 x1)), (2, .int (i32 x2)), (3, .int (i32 x3)), (4, .int (i32 x4)), (5, .int (i32 x5)), (6, .int (i32 x6)), (7, .int (i32 x7)), (9, .int (i32 x9))]) d_S_setsWithWhich_146 (by decide) rfl ?_
  refine vj_sub [1, 2, 3, 4, 5, 6, 7, 8, 0, 9] rfl ?_
  exact wk_S_setsWithWhich_148 G0 n k40 hk40 k74 hk74 x1 x2 x3 x4 x5 x6 x7 s0 x9 hx1 hx2 hx3 hx4 hx5 hx6 hx7 hs0 hx9 _ hF
set_option maxHeartbeats 4000000 in
set_option maxRecDepth 100000 in
theorem wk_S_setsWithWhich_74 {w : Wd} {X : Cx} {r : Int} {M9 : Mm} (G0 : Gx LC w X "WhoRules$Search" b_S_setsWithWhich 10 0 0 (some .int)) (n : Nat) (k40 : Int → Int → Int → Int → Int → Int → Mm → Rr) (hk40 : ∀ (x1 x2 x3 x4 x5 x6 : Int) (hx1 : inR x1) (hx2 : inR x2) (hx3 : inR x3) (hx4 : inB x4) (hx5 : inR x5) (hx6 : inR x6) (M : Mm), k40 x1 x2 x3 x4 x5 x6 M = some (r, M9) → VJ LC w X 10 1 r M9 M [(0, .ref (wa w 4)), (1, .int (i32 x1)), (2, .int (i32 x2)), (3, .int (i32 x3)), (4, .int (i32 x4)), (5, .int (i32 x5)), (6, .int (i32 x6))] [] 40) (k74 : Int → Int → Int → Int → Int → Int → Int → Int → Int → Mm → Rr) (hk74 : ∀ (x1 x2 x3 x4 x5 x6 x7 x8 x9 : Int) (hx1 : inR x1) (hx2 : inR x2) (hx3 : inR x3) (hx4 : inB x4) (hx5 : inR x5) (hx6 : inR x6) (hx7 : inR x7) (hx8 : inB x8) (hx9 : inR x9) (M : Mm), k74 x1 x2 x3 x4 x5 x6 x7 x8 x9 M = some (r, M9) → VJ LC w X 10 1 r M9 M [(0, .ref (wa w 4)), (1, .int (i32 x1)), (2, .int (i32 x2)), (3, .int (i32 x3)), (4, .int (i32 x4)), (5, .int (i32 x5)), (6, .int (i32 x6)), (7, .int (i32 x7)), (8, .int (i32 x8)), (9, .int (i32 x9))] [] 74) (x1 x2 x3 x4 x5 x6 x7 x8 x9 : Int) (hx1 : inR x1) (hx2 : inR x2) (hx3 : inR x3) (hx4 : inB x4) (hx5 : inR x5) (hx6 : inR x6) (hx7 : inR x7) (hx8 : inB x8) (hx9 : inR x9) (M : Mm) (hF : f_S_setsWithWhich_74 n k40 k74 x1 x2 x3 x4 x5 x6 x7 x8 x9 M = some (r, M9)) : VJ LC w X 10 1 r M9 M [(0, .ref (wa w 4)), (1, .int (i32 x1)), (2, .int (i32 x2)), (3, .int (i32 x3)), (4, .int (i32 x4)), (5, .int (i32 x5)), (6, .int (i32 x6)), (7, .int (i32 x7)), (8, .int (i32 x8)), (9, .int (i32 x9))] [] 74 := by
  have G := G0.1
  unfold f_S_setsWithWhich_74 at hF
  refine vj_iload G (p9 := 9) d_S_setsWithWhich_74 rfl ?_
  refine vj_aload_n G (p9 := 0) d_S_setsWithWhich_76 rfl rfl ?_
  refine gfC_S_38 G d_S_setsWithWhich_77 ?_
  refine gfC_S_49 G d_S_setsWithWhich_80 ?_
  refine vj_mr (fun hM1 => ?_)
  refine vj_icmp_ge G (tgt := 154) d_S_setsWithWhich_83 (by decide) hx9 (mr_o hM1 lkC_1 flC_7_2) (fun c2 => ?_) (fun c2 => ?_)
  · rw [if_pos c2] at hF
    refine vj_iload G (p9 := 5) d_S_setsWithWhich_154 rfl ?_
    refine vj_iload G (p9 := 7) d_S_setsWithWhich_156 rfl ?_
    refine vj_aload_n G (p9 := 0) d_S_setsWithWhich_158 rfl rfl ?_
    refine gfC_S_42 G d_S_setsWithWhich_159 ?_
    refine gfC_S_100 G d_S_setsWithWhich_162 ?_
    refine vj_iload_n G (p9 := 1) d_S_setsWithWhich_165 rfl rfl ?_
    obtain ⟨c3, hF⟩ := ck_some hF
    refine vj_iald G (x := x1) lkC_44 (by decide) c3 d_S_setsWithWhich_166 ?_
    refine vj_mr (fun hM4 => ?_)
    refine vj_icmp_le G (tgt := 182) d_S_setsWithWhich_167 (by decide) hx7 (mr_a hM4 lkC_44) (fun c5 => ?_) (fun c5 => ?_)
    · rw [if_pos c5] at hF
      refine vj_sub [0, 1, 2, 3, 4, 6] rfl ?_
      exact wk_S_setsWithWhich_182 G0 n k40 hk40 x1 x2 x3 x4 x6 x5 hx1 hx2 hx3 hx4 hx6 hx5 _ hF
    · rw [if_neg c5] at hF
      refine vj_iload G (p9 := 8) d_S_setsWithWhich_170 rfl ?_
      refine vj_if_eq G (tgt := 182) d_S_setsWithWhich_172 (by decide) (ir_b hx8) (fun c6 => ?_) (fun c6 => ?_)
      · rw [if_pos c6] at hF
        refine vj_sub [0, 1, 2, 3, 4, 6] rfl ?_
        exact wk_S_setsWithWhich_182 G0 n k40 hk40 x1 x2 x3 x4 x6 x5 hx1 hx2 hx3 hx4 hx6 hx5 _ hF
      · rw [if_neg c6] at hF
        refine vj_iconst G (v := 1) d_S_setsWithWhich_175 rfl ?_
        refine vj_iload G (p9 := 6) d_S_setsWithWhich_176 rfl ?_
        refine vj_ishl G d_S_setsWithWhich_178 ?_
        refine vj_goto G (tgt := 183) d_S_setsWithWhich_179 (by decide) ?_
        refine vj_sub [0, 1, 2, 3, 4, 6] rfl ?_
        exact wk_S_setsWithWhich_183 G0 n k40 hk40 x1 x2 x3 x4 x6 x5 (ish 1 x6) hx1 hx2 hx3 hx4 hx6 hx5 (ir_sh _ _) _ hF
  · rw [if_neg c2] at hF
    refine vj_iload G (p9 := 6) d_S_setsWithWhich_86 rfl ?_
    refine vj_iload G (p9 := 9) d_S_setsWithWhich_88 rfl ?_
    refine vj_ishr G d_S_setsWithWhich_90 ?_
    refine vj_iconst G (v := 1) d_S_setsWithWhich_91 rfl ?_
    refine vj_iand G d_S_setsWithWhich_92 ?_
    refine vj_iconst G (v := 1) d_S_setsWithWhich_93 rfl ?_
    refine vj_icmp_ne G (tgt := 148) d_S_setsWithWhich_94 (by decide) (ir_an _ _) ic_1 (fun c7 => ?_) (fun c7 => ?_)
    · rw [if_pos c7] at hF
      exact wk_S_setsWithWhich_148 G0 n k40 hk40 k74 hk74 x1 x2 x3 x4 x5 x6 x7 x8 x9 hx1 hx2 hx3 hx4 hx5 hx6 hx7 hx8 hx9 _ hF
    · rw [if_neg c7] at hF
      refine vj_iload G (p9 := 7) d_S_setsWithWhich_97 rfl ?_
      refine vj_aload_n G (p9 := 0) d_S_setsWithWhich_99 rfl rfl ?_
      refine gfC_S_42 G d_S_setsWithWhich_100 ?_
      refine gfC_S_97 G d_S_setsWithWhich_103 ?_
      refine vj_iload_n G (p9 := 1) d_S_setsWithWhich_106 rfl rfl ?_
      obtain ⟨c8, hF⟩ := ck_some hF
      refine vj_aald5 G (x := x1) lkC_42 (by decide) c8 d_S_setsWithWhich_107 ?_
      refine vj_aload_n G (p9 := 0) d_S_setsWithWhich_108 rfl rfl ?_
      refine gfC_S_38 G d_S_setsWithWhich_109 ?_
      refine gfC_S_78 G d_S_setsWithWhich_112 ?_
      refine vj_iload G (p9 := 9) d_S_setsWithWhich_115 rfl ?_
      obtain ⟨c9, hF⟩ := ck_some hF
      refine vj_iald G (x := x9) lkC_19 (by decide) c9 d_S_setsWithWhich_117 ?_
      refine vj_mr (fun hM10 => ?_)
      obtain ⟨c11, hF⟩ := ck_some hF
      refine vj_iald G (x := (M 19 x9.toNat)) (lkC_r130 c8) (by decide) c11 d_S_setsWithWhich_118 ?_
      refine vj_iadd G d_S_setsWithWhich_119 ?_
      refine vj_istore G (lv2 := [(7, .int (i32 (w32 (x7 + (M (130 + x1.toNat) (M 19 x9.toNat).toNat))))), (0, .ref (wa w 4)), (1, .int (i32 x1)), (2, .int (i32 x2)), (3, .int (i32 x3)), (4, .int (i32 x4)), (5, .int (i32 x5)), (6, .int (i32 x6)), (8, .int (i32 x8)), (9, .int (i32 x9))]) d_S_setsWithWhich_120 (by decide) rfl ?_
      refine vj_iload G (p9 := 8) d_S_setsWithWhich_122 rfl ?_
      refine vj_if_ne G (tgt := 141) d_S_setsWithWhich_124 (by decide) (ir_b hx8) (fun c12 => ?_) (fun c12 => ?_)
      · rw [if_pos c12] at hF
        refine vj_iconst G (v := 1) d_S_setsWithWhich_141 rfl ?_
        refine vj_goto G (tgt := 146) d_S_setsWithWhich_142 (by decide) ?_
        refine vj_sub [1, 2, 3, 4, 5, 6, 7, 0, 9] rfl ?_
        exact wk_S_setsWithWhich_146 G0 n k40 hk40 k74 hk74 x1 x2 x3 x4 x5 x6 (w32 (x7 + (M (130 + x1.toNat) (M 19 x9.toNat).toNat))) x9 1 hx1 hx2 hx3 hx4 hx5 hx6 (ir_w _) hx9 (Or.inr rfl) _ hF
      · rw [if_neg c12] at hF
        refine vj_aload_n G (p9 := 1) d_S_setsWithWhich_127 rfl rfl ?_
        refine gfC_S_38 G d_S_setsWithWhich_128 ?_
        refine gfC_S_78 G d_S_setsWithWhich_131 ?_
        refine vj_iload G (p9 := 9) d_S_setsWithWhich_134 rfl ?_
        obtain ⟨c13, hF⟩ := ck_some hF
        refine vj_iald G (x := x9) lkC_19 (by decide) c13 d_S_setsWithWhich_136 ?_
        refine vj_mr (fun hM14 => ?_)
        refine vj_iload_n G (p9 := 4) d_S_setsWithWhich_137 rfl rfl ?_
        refine vj_icmp_ne G (tgt := 145) d_S_setsWithWhich_138 (by decide) (mr_a hM14 lkC_19) hx3 (fun c15 => ?_) (fun c15 => ?_)
        · rw [if_pos c15] at hF
          refine vj_iconst G (v := 0) d_S_setsWithWhich_145 rfl ?_
          refine vj_sub [1, 2, 3, 4, 5, 6, 7, 0, 9] rfl ?_
          exact wk_S_setsWithWhich_146 G0 n k40 hk40 k74 hk74 x1 x2 x3 x4 x5 x6 (w32 (x7 + (M (130 + x1.toNat) (M 19 x9.toNat).toNat))) x9 0 hx1 hx2 hx3 hx4 hx5 hx6 (ir_w _) hx9 (Or.inl rfl) _ hF
        · rw [if_neg c15] at hF
          refine vj_iconst G (v := 1) d_S_setsWithWhich_141 rfl ?_
          refine vj_goto G (tgt := 146) d_S_setsWithWhich_142 (by decide) ?_
          refine vj_sub [1, 2, 3, 4, 5, 6, 7, 0, 9] rfl ?_
          exact wk_S_setsWithWhich_146 G0 n k40 hk40 k74 hk74 x1 x2 x3 x4 x5 x6 (w32 (x7 + (M (130 + x1.toNat) (M 19 x9.toNat).toNat))) x9 1 hx1 hx2 hx3 hx4 hx5 hx6 (ir_w _) hx9 (Or.inr rfl) _ hF
set_option maxHeartbeats 4000000 in
set_option maxRecDepth 100000 in
theorem wl_S_setsWithWhich_74 {w : Wd} {X : Cx} {r : Int} {M9 : Mm} (G0 : Gx LC w X "WhoRules$Search" b_S_setsWithWhich 10 0 0 (some .int)) (n : Nat) (k40 : Int → Int → Int → Int → Int → Int → Mm → Rr) (hk40 : ∀ (x1 x2 x3 x4 x5 x6 : Int) (hx1 : inR x1) (hx2 : inR x2) (hx3 : inR x3) (hx4 : inB x4) (hx5 : inR x5) (hx6 : inR x6) (M : Mm), k40 x1 x2 x3 x4 x5 x6 M = some (r, M9) → VJ LC w X 10 1 r M9 M [(0, .ref (wa w 4)), (1, .int (i32 x1)), (2, .int (i32 x2)), (3, .int (i32 x3)), (4, .int (i32 x4)), (5, .int (i32 x5)), (6, .int (i32 x6))] [] 40) : ∀ (f : Nat) (x1 x2 x3 x4 x5 x6 x7 x8 x9 : Int) (hx1 : inR x1) (hx2 : inR x2) (hx3 : inR x3) (hx4 : inB x4) (hx5 : inR x5) (hx6 : inR x6) (hx7 : inR x7) (hx8 : inB x8) (hx9 : inR x9) (M : Mm), lp_S_setsWithWhich_74 n k40 f x1 x2 x3 x4 x5 x6 x7 x8 x9 M = some (r, M9) → VJ LC w X 10 1 r M9 M [(0, .ref (wa w 4)), (1, .int (i32 x1)), (2, .int (i32 x2)), (3, .int (i32 x3)), (4, .int (i32 x4)), (5, .int (i32 x5)), (6, .int (i32 x6)), (7, .int (i32 x7)), (8, .int (i32 x8)), (9, .int (i32 x9))] [] 74 := by
  intro f
  induction f with
  | zero => intro x1 x2 x3 x4 x5 x6 x7 x8 x9 hx1 hx2 hx3 hx4 hx5 hx6 hx7 hx8 hx9 M hF; cases hF
  | succ f ih => intro x1 x2 x3 x4 x5 x6 x7 x8 x9 hx1 hx2 hx3 hx4 hx5 hx6 hx7 hx8 hx9 M hF; exact wk_S_setsWithWhich_74 G0 n k40 hk40 (lp_S_setsWithWhich_74 n k40 f) ih x1 x2 x3 x4 x5 x6 x7 x8 x9 hx1 hx2 hx3 hx4 hx5 hx6 hx7 hx8 hx9 M hF
set_option maxHeartbeats 4000000 in
set_option maxRecDepth 100000 in
theorem wk_S_setsWithWhich_40 {w : Wd} {X : Cx} {r : Int} {M9 : Mm} (G0 : Gx LC w X "WhoRules$Search" b_S_setsWithWhich 10 0 0 (some .int)) (n : Nat) (k40 : Int → Int → Int → Int → Int → Int → Mm → Rr) (hk40 : ∀ (x1 x2 x3 x4 x5 x6 : Int) (hx1 : inR x1) (hx2 : inR x2) (hx3 : inR x3) (hx4 : inB x4) (hx5 : inR x5) (hx6 : inR x6) (M : Mm), k40 x1 x2 x3 x4 x5 x6 M = some (r, M9) → VJ LC w X 10 1 r M9 M [(0, .ref (wa w 4)), (1, .int (i32 x1)), (2, .int (i32 x2)), (3, .int (i32 x3)), (4, .int (i32 x4)), (5, .int (i32 x5)), (6, .int (i32 x6))] [] 40) (x1 x2 x3 x4 x5 x6 : Int) (hx1 : inR x1) (hx2 : inR x2) (hx3 : inR x3) (hx4 : inB x4) (hx5 : inR x5) (hx6 : inR x6) (M : Mm) (hF : f_S_setsWithWhich_40 n k40 x1 x2 x3 x4 x5 x6 M = some (r, M9)) : VJ LC w X 10 1 r M9 M [(0, .ref (wa w 4)), (1, .int (i32 x1)), (2, .int (i32 x2)), (3, .int (i32 x3)), (4, .int (i32 x4)), (5, .int (i32 x5)), (6, .int (i32 x6))] [] 40 := by
  have G := G0.1
  unfold f_S_setsWithWhich_40 at hF
  refine vj_iload G (p9 := 6) d_S_setsWithWhich_40 rfl ?_
  refine vj_iconst G (v := 1) d_S_setsWithWhich_42 rfl ?_
  refine vj_aload_n G (p9 := 0) d_S_setsWithWhich_43 rfl rfl ?_
  refine gfC_S_38 G d_S_setsWithWhich_44 ?_
  refine gfC_S_49 G d_S_setsWithWhich_47 ?_
  refine vj_mr (fun hM1 => ?_)
  refine vj_ishl G d_S_setsWithWhich_50 ?_
  refine vj_icmp_ge G (tgt := 192) d_S_setsWithWhich_51 (by decide) hx6 (ir_sh _ _) (fun c2 => ?_) (fun c2 => ?_)
  · rw [if_pos c2] at hF
    refine vj_iload G (p9 := 5) d_S_setsWithWhich_192 rfl ?_
    cases hF
    exact vj_iret G0 hx5 d_S_setsWithWhich_194
  · rw [if_neg c2] at hF
    refine vj_aload_n G (p9 := 0) d_S_setsWithWhich_54 rfl rfl ?_
    refine gfC_S_42 G d_S_setsWithWhich_55 ?_
    refine gfC_S_94 G d_S_setsWithWhich_58 ?_
    refine vj_iload_n G (p9 := 1) d_S_setsWithWhich_61 rfl rfl ?_
    obtain ⟨c3, hF⟩ := ck_some hF
    refine vj_aald5 G (x := x1) lkC_46 (by decide) c3 d_S_setsWithWhich_62 ?_
    refine vj_iload_n G (p9 := 2) d_S_setsWithWhich_63 rfl rfl ?_
    obtain ⟨c4, hF⟩ := ck_some hF
    refine vj_iald G (x := x2) (lkC_r150 c3) (by decide) c4 d_S_setsWithWhich_64 ?_
    refine vj_mr (fun hM5 => ?_)
    refine vj_istore G (lv2 := [(7, .int (i32 (M (150 + x1.toNat) x2.toNat))), (0, .ref (wa w 4)), (1, .int (i32 x1)), (2, .int (i32 x2)), (3, .int (i32 x3)), (4, .int (i32 x4)), (5, .int (i32 x5)), (6, .int (i32 x6))]) d_S_setsWithWhich_65 (by decide) rfl ?_
    refine vj_iload G (p9 := 5) d_S_setsWithWhich_67 rfl ?_
    refine vj_istore G (lv2 := [(8, .int (i32 x4)), (7, .int (i32 (M (150 + x1.toNat) x2.toNat))), (0, .ref (wa w 4)), (1, .int (i32 x1)), (2, .int (i32 x2)), (3, .int (i32 x3)), (4, .int (i32 x4)), (5, .int (i32 x5)), (6, .int (i32 x6))]) d_S_setsWithWhich_69 (by decide) rfl ?_
    refine vj_iconst G (v := 0) d_S_setsWithWhich_71 rfl ?_
    refine vj_istore G (lv2 := [(9, .int (i32 0)), (8, .int (i32 x4)), (7, .int (i32 (M (150 + x1.toNat) x2.toNat))), (0, .ref (wa w 4)), (1, .int (i32 x1)), (2, .int (i32 x2)), (3, .int (i32 x3)), (4, .int (i32 x4)), (5, .int (i32 x5)), (6, .int (i32 x6))]) d_S_setsWithWhich_72 (by decide) rfl ?_
    refine vj_sub [3, 4, 5, 6, 7, 8, 9, 2, 1, 0] rfl ?_
    exact wl_S_setsWithWhich_74 G0 n k40 hk40 n x1 x2 x3 x4 x5 x6 (M (150 + x1.toNat) x2.toNat) x4 0 hx1 hx2 hx3 hx4 hx5 hx6 (mr_a hM5 (lkC_r150 c3)) hx4 ic_0 _ hF
set_option maxHeartbeats 4000000 in
set_option maxRecDepth 100000 in
theorem wl_S_setsWithWhich_40 {w : Wd} {X : Cx} {r : Int} {M9 : Mm} (G0 : Gx LC w X "WhoRules$Search" b_S_setsWithWhich 10 0 0 (some .int)) (n : Nat) : ∀ (f : Nat) (x1 x2 x3 x4 x5 x6 : Int) (hx1 : inR x1) (hx2 : inR x2) (hx3 : inR x3) (hx4 : inB x4) (hx5 : inR x5) (hx6 : inR x6) (M : Mm), lp_S_setsWithWhich_40 n f x1 x2 x3 x4 x5 x6 M = some (r, M9) → VJ LC w X 10 1 r M9 M [(0, .ref (wa w 4)), (1, .int (i32 x1)), (2, .int (i32 x2)), (3, .int (i32 x3)), (4, .int (i32 x4)), (5, .int (i32 x5)), (6, .int (i32 x6))] [] 40 := by
  intro f
  induction f with
  | zero => intro x1 x2 x3 x4 x5 x6 hx1 hx2 hx3 hx4 hx5 hx6 M hF; cases hF
  | succ f ih => intro x1 x2 x3 x4 x5 x6 hx1 hx2 hx3 hx4 hx5 hx6 M hF; exact wk_S_setsWithWhich_40 G0 n (lp_S_setsWithWhich_40 n f) ih x1 x2 x3 x4 x5 x6 hx1 hx2 hx3 hx4 hx5 hx6 M hF
set_option maxHeartbeats 4000000 in
set_option maxRecDepth 100000 in
theorem wk_S_setsWithWhich_32 {w : Wd} {X : Cx} {r : Int} {M9 : Mm} (G0 : Gx LC w X "WhoRules$Search" b_S_setsWithWhich 10 0 0 (some .int)) (n : Nat) (x1 x2 x3 s0 : Int) (hx1 : inR x1) (hx2 : inR x2) (hx3 : inR x3) (hs0 : inB s0) (M : Mm) (hF : f_S_setsWithWhich_32 n x1 x2 x3 s0 M = some (r, M9)) : VJ LC w X 10 1 r M9 M [(0, .ref (wa w 4)), (1, .int (i32 x1)), (2, .int (i32 x2)), (3, .int (i32 x3))] [.int (i32 s0)] 32 := by
  have G := G0.1
  unfold f_S_setsWithWhich_32 at hF
  refine vj_istore G (lv2 := [(4, .int (i32 s0)), (0, .ref (wa w 4)), (1, .int (i32 x1)), (2, .int (i32 x2)), (3, .int (i32 x3))]) d_S_setsWithWhich_32 (by decide) rfl ?_
  refine vj_iconst G (v := 0) d_S_setsWithWhich_34 rfl ?_
  refine vj_istore G (lv2 := [(5, .int (i32 0)), (4, .int (i32 s0)), (0, .ref (wa w 4)), (1, .int (i32 x1)), (2, .int (i32 x2)), (3, .int (i32 x3))]) d_S_setsWithWhich_35 (by decide) rfl ?_
  refine vj_iconst G (v := 0) d_S_setsWithWhich_37 rfl ?_
  refine vj_istore G (lv2 := [(6, .int (i32 0)), (5, .int (i32 0)), (4, .int (i32 s0)), (0, .ref (wa w 4)), (1, .int (i32 x1)), (2, .int (i32 x2)), (3, .int (i32 x3))]) d_S_setsWithWhich_38 (by decide) rfl ?_
  refine vj_sub [3, 4, 5, 6, 2, 1, 0] rfl ?_
  exact wl_S_setsWithWhich_40 G0 n  n x1 x2 x3 s0 0 0 hx1 hx2 hx3 hs0 ic_0 ic_0 _ hF
set_option maxHeartbeats 4000000 in
set_option maxRecDepth 100000 in
theorem ct_S_setsWithWhich {w : Wd} (hij : ij LC w) (n : Nat) (x1 x2 : Int) (hx1 : inR x1) (hx2 : inR x2) {M : Mm} {r : Int} {M9 : Mm} (hF : f_S_setsWithWhich n x1 x2 M = some (r, M9)) : Ct LC w y_S_setsWithWhich b_S_setsWithWhich 10 (some .int) 0 0 1 [.ref (wa w 4), .int (i32 x1), .int (i32 x2)] M r M9 := by
  refine Ct.of hij KstC (by decide +kernel) (Nat.le_of_ble_eq_true rfl) (fun X G0 => ?_)
  have G := G0.1
  show VJ LC w X 10 1 r M9 M [(0, .ref (wa w 4)), (1, .int (i32 x1)), (2, .int (i32 x2))] [] 0
  unfold f_S_setsWithWhich at hF
  refine vj_aload_n G (p9 := 0) d_S_setsWithWhich_0 rfl rfl ?_
  refine gfC_S_42 G d_S_setsWithWhich_1 ?_
  refine gfC_S_88 G d_S_setsWithWhich_4 ?_
  refine vj_iload_n G (p9 := 1) d_S_setsWithWhich_7 rfl rfl ?_
  obtain ⟨c1, hF⟩ := ck_some hF
  refine vj_iald G (x := x1) lkC_43 (by decide) c1 d_S_setsWithWhich_8 ?_
  refine vj_mr (fun hM2 => ?_)
  refine vj_istore_n G (lv2 := [(3, .int (i32 (M 43 x1.toNat))), (0, .ref (wa w 4)), (1, .int (i32 x1)), (2, .int (i32 x2))]) d_S_setsWithWhich_9 rfl (by decide) rfl ?_
  refine vj_iload_n G (p9 := 0) d_S_setsWithWhich_10 rfl rfl ?_
  refine vj_if_lt G (tgt := 27) d_S_setsWithWhich_11 (by decide) (mr_a hM2 lkC_43) (fun c3 => ?_) (fun c3 => ?_)
  · rw [if_pos c3] at hF
    refine vj_iconst G (v := 1) d_S_setsWithWhich_27 rfl ?_
    refine vj_goto G (tgt := 32) d_S_setsWithWhich_28 (by decide) ?_
    refine vj_sub [1, 2, 3, 0] rfl ?_
    exact wk_S_setsWithWhich_32 G0 n  x1 x2 (M 43 x1.toNat) 1 hx1 hx2 (mr_a hM2 lkC_43) (Or.inr rfl) _ hF
  · rw [if_neg c3] at hF
    refine vj_aload_n G (p9 := 1) d_S_setsWithWhich_14 rfl rfl ?_
    refine gfC_S_42 G d_S_setsWithWhich_15 ?_
    refine gfC_S_91 G d_S_setsWithWhich_18 ?_
    refine vj_iload_n G (p9 := 0) d_S_setsWithWhich_21 rfl rfl ?_
    obtain ⟨c4, hF⟩ := ck_some hF
    refine vj_iald G (x := (M 43 x1.toNat)) lkC_45 (by decide) c4 d_S_setsWithWhich_22 ?_
    refine vj_mr (fun hM5 => ?_)
    refine vj_iload_n G (p9 := 3) d_S_setsWithWhich_23 rfl rfl ?_
    refine vj_icmp_ne G (tgt := 31) d_S_setsWithWhich_24 (by decide) (mr_a hM5 lkC_45) hx2 (fun c6 => ?_) (fun c6 => ?_)
    · rw [if_pos c6] at hF
      refine vj_iconst G (v := 0) d_S_setsWithWhich_31 rfl ?_
      refine vj_sub [1, 2, 3, 0] rfl ?_
      exact wk_S_setsWithWhich_32 G0 n  x1 x2 (M 43 x1.toNat) 0 hx1 hx2 (mr_a hM2 lkC_43) (Or.inl rfl) _ hF
    · rw [if_neg c6] at hF
      refine vj_iconst G (v := 1) d_S_setsWithWhich_27 rfl ?_
      refine vj_goto G (tgt := 32) d_S_setsWithWhich_28 (by decide) ?_
      refine vj_sub [1, 2, 3, 0] rfl ?_
      exact wk_S_setsWithWhich_32 G0 n  x1 x2 (M 43 x1.toNat) 1 hx1 hx2 (mr_a hM2 lkC_43) (Or.inr rfl) _ hF
set_option maxHeartbeats 4000000 in
set_option maxRecDepth 100000 in
theorem wk_S_listCarrying_86 {w : Wd} {X : Cx} {r : Int} {M9 : Mm} (G0 : Gx LC w X "WhoRules$Search" b_S_listCarrying 3 3 68 none) (n : Nat) (k16 : Int → Mm → Rr) (hk16 : ∀ (x1 : Int) (hx1 : inR x1) (M : Mm), k16 x1 M = some (r, M9) → VJ LC w X 3 0 r M9 M [(0, .ref (wa w 4)), (1, .int (i32 x1))] [] 16) (x1 : Int) (hx1 : inR x1) (M : Mm) (hF : f_S_listCarrying_86 n k16 x1 M = some (r, M9)) : VJ LC w X 3 0 r M9 M [(0, .ref (wa w 4)), (1, .int (i32 x1))] [] 86 := by
  have G := G0.1
  unfold f_S_listCarrying_86 at hF
  refine vj_iinc G (p9 := 1) (n := 1) (lv2 := [(1, .int (i32 (w32 (x1 + 1)))), (0, .ref (wa w 4))]) d_S_listCarrying_86 rfl (by decide) rfl ?_
  refine vj_goto G (tgt := 16) d_S_listCarrying_89 (by decide) ?_
  refine vj_sub [1, 0] rfl ?_
  exact hk16 (w32 (x1 + 1)) (ir_w _) _ hF
set_option maxHeartbeats 4000000 in
set_option maxRecDepth 100000 in
theorem wk_S_listCarrying_34 {w : Wd} {X : Cx} {r : Int} {M9 : Mm} (G0 : Gx LC w X "WhoRules$Search" b_S_listCarrying 3 3 68 none) (n : Nat) (k16 : Int → Mm → Rr) (hk16 : ∀ (x1 : Int) (hx1 : inR x1) (M : Mm), k16 x1 M = some (r, M9) → VJ LC w X 3 0 r M9 M [(0, .ref (wa w 4)), (1, .int (i32 x1))] [] 16) (k34 : Int → Int → Mm → Rr) (hk34 : ∀ (x1 x2 : Int) (hx1 : inR x1) (hx2 : inR x2) (M : Mm), k34 x1 x2 M = some (r, M9) → VJ LC w X 3 0 r M9 M [(0, .ref (wa w 4)), (1, .int (i32 x1)), (2, .int (i32 x2))] [] 34) (x1 x2 : Int) (hx1 : inR x1) (hx2 : inR x2) (M : Mm) (hF : f_S_listCarrying_34 n k16 k34 x1 x2 M = some (r, M9)) : VJ LC w X 3 0 r M9 M [(0, .ref (wa w 4)), (1, .int (i32 x1)), (2, .int (i32 x2))] [] 34 := by
  have G := G0.1
  unfold f_S_listCarrying_34 at hF
  refine vj_iload_n G (p9 := 2) d_S_listCarrying_34 rfl rfl ?_
  refine vj_aload_n G (p9 := 0) d_S_listCarrying_35 rfl rfl ?_
  refine gfC_S_38 G d_S_listCarrying_36 ?_
  refine gfC_S_55 G d_S_listCarrying_39 ?_
  refine vj_mr (fun hM1 => ?_)
  refine vj_icmp_ge G (tgt := 86) d_S_listCarrying_42 (by decide) hx2 (mr_o hM1 lkC_1 flC_7_3) (fun c2 => ?_) (fun c2 => ?_)
  · rw [if_pos c2] at hF
    refine vj_sub [0, 1] rfl ?_
    exact wk_S_listCarrying_86 G0 n k16 hk16 x1 hx1 _ hF
  · rw [if_neg c2] at hF
    refine vj_iload_n G (p9 := 2) d_S_listCarrying_45 rfl rfl ?_
    refine vj_iconst G (v := 4) d_S_listCarrying_46 rfl ?_
    refine vj_icmp_ge G (tgt := 86) d_S_listCarrying_47 (by decide) hx2 ic_4 (fun c3 => ?_) (fun c3 => ?_)
    · rw [if_pos c3] at hF
      refine vj_sub [0, 1] rfl ?_
      exact wk_S_listCarrying_86 G0 n k16 hk16 x1 hx1 _ hF
    · rw [if_neg c3] at hF
      refine vj_aload_n G (p9 := 0) d_S_listCarrying_50 rfl rfl ?_
      refine gfC_S_17 G d_S_listCarrying_51 ?_
      refine vj_iload_n G (p9 := 1) d_S_listCarrying_54 rfl rfl ?_
      obtain ⟨c4, hF⟩ := ck_some hF
      refine vj_aald5 G (x := x1) lkC_49 (by decide) c4 d_S_listCarrying_55 ?_
      refine vj_iload_n G (p9 := 2) d_S_listCarrying_56 rfl rfl ?_
      refine vj_aload_n G (p9 := 0) d_S_listCarrying_57 rfl rfl ?_
      refine vj_aload_n G (p9 := 0) d_S_listCarrying_58 rfl rfl ?_
      refine gfC_S_38 G d_S_listCarrying_59 ?_
      refine gfC_S_78 G d_S_listCarrying_62 ?_
      refine vj_iload_n G (p9 := 1) d_S_listCarrying_65 rfl rfl ?_
      obtain ⟨c5, hF⟩ := ck_some hF
      refine vj_iald G (x := x1) lkC_19 (by decide) c5 d_S_listCarrying_66 ?_
      refine vj_mr (fun hM6 => ?_)
      refine vj_aload_n G (p9 := 0) d_S_listCarrying_67 rfl rfl ?_
      refine gfC_S_38 G d_S_listCarrying_68 ?_
      refine gfC_S_81 G d_S_listCarrying_71 ?_
      refine vj_iload_n G (p9 := 2) d_S_listCarrying_74 rfl rfl ?_
      obtain ⟨c7, hF⟩ := ck_some hF
      refine vj_iald G (x := x2) lkC_20 (by decide) c7 d_S_listCarrying_75 ?_
      obtain ⟨r8, M8, e8, hF⟩ := bnd_some hF
      refine vj_callV1 G (ct_S_setsWithWhich (gx_ij G) n (M 19 x1.toNat) (M 20 x2.toNat) (mr_a hM6 lkC_19) (mr_a hM6 lkC_20) e8) lkC_4 clC_10 rfl q_908 cq_S_setsWithWhich rfl (by decide) (by decide) (Nat.le_of_ble_eq_true rfl) d_S_listCarrying_76 rfl (fun hr8 => ?_)
      obtain ⟨c9, hF⟩ := ck_some hF
      refine vj_iast G (x := x2) (lkC_r170 c4) (by decide) (k9_170 c4) (kh_170 c4) c9 hr8 d_S_listCarrying_79 ?_
      refine vj_iinc G (p9 := 2) (n := 1) (lv2 := [(2, .int (i32 (w32 (x2 + 1)))), (0, .ref (wa w 4)), (1, .int (i32 x1))]) d_S_listCarrying_80 rfl (by decide) rfl ?_
      refine vj_goto G (tgt := 34) d_S_listCarrying_83 (by decide) ?_
      refine vj_sub [1, 2, 0] rfl ?_
      exact hk34 x1 (w32 (x2 + 1)) hx1 (ir_w _) _ hF
set_option maxHeartbeats 4000000 in
set_option maxRecDepth 100000 in
theorem wl_S_listCarrying_34 {w : Wd} {X : Cx} {r : Int} {M9 : Mm} (G0 : Gx LC w X "WhoRules$Search" b_S_listCarrying 3 3 68 none) (n : Nat) (k16 : Int → Mm → Rr) (hk16 : ∀ (x1 : Int) (hx1 : inR x1) (M : Mm), k16 x1 M = some (r, M9) → VJ LC w X 3 0 r M9 M [(0, .ref (wa w 4)), (1, .int (i32 x1))] [] 16) : ∀ (f : Nat) (x1 x2 : Int) (hx1 : inR x1) (hx2 : inR x2) (M : Mm), lp_S_listCarrying_34 n k16 f x1 x2 M = some (r, M9) → VJ LC w X 3 0 r M9 M [(0, .ref (wa w 4)), (1, .int (i32 x1)), (2, .int (i32 x2))] [] 34 := by
  intro f
  induction f with
  | zero => intro x1 x2 hx1 hx2 M hF; cases hF
  | succ f ih => intro x1 x2 hx1 hx2 M hF; exact wk_S_listCarrying_34 G0 n k16 hk16 (lp_S_listCarrying_34 n k16 f) ih x1 x2 hx1 hx2 M hF
set_option maxHeartbeats 4000000 in
set_option maxRecDepth 100000 in
theorem wk_S_listCarrying_16 {w : Wd} {X : Cx} {r : Int} {M9 : Mm} (G0 : Gx LC w X "WhoRules$Search" b_S_listCarrying 3 3 68 none) (n : Nat) (k16 : Int → Mm → Rr) (hk16 : ∀ (x1 : Int) (hx1 : inR x1) (M : Mm), k16 x1 M = some (r, M9) → VJ LC w X 3 0 r M9 M [(0, .ref (wa w 4)), (1, .int (i32 x1))] [] 16) (x1 : Int) (hx1 : inR x1) (M : Mm) (hF : f_S_listCarrying_16 n k16 x1 M = some (r, M9)) : VJ LC w X 3 0 r M9 M [(0, .ref (wa w 4)), (1, .int (i32 x1))] [] 16 := by
  have G := G0.1
  unfold f_S_listCarrying_16 at hF
  refine vj_iload_n G (p9 := 1) d_S_listCarrying_16 rfl rfl ?_
  refine vj_aload_n G (p9 := 0) d_S_listCarrying_17 rfl rfl ?_
  refine gfC_S_38 G d_S_listCarrying_18 ?_
  refine gfC_S_49 G d_S_listCarrying_21 ?_
  refine vj_mr (fun hM1 => ?_)
  refine vj_icmp_ge G (tgt := 92) d_S_listCarrying_24 (by decide) hx1 (mr_o hM1 lkC_1 flC_7_2) (fun c2 => ?_) (fun c2 => ?_)
  · rw [if_pos c2] at hF
    cases hF
    exact vj_vret G0 d_S_listCarrying_92
  · rw [if_neg c2] at hF
    refine vj_iload_n G (p9 := 1) d_S_listCarrying_27 rfl rfl ?_
    refine vj_iconst G (v := 5) d_S_listCarrying_28 rfl ?_
    refine vj_icmp_ge G (tgt := 92) d_S_listCarrying_29 (by decide) hx1 ic_5 (fun c3 => ?_) (fun c3 => ?_)
    · rw [if_pos c3] at hF
      cases hF
      exact vj_vret G0 d_S_listCarrying_92
    · rw [if_neg c3] at hF
      refine vj_iconst G (v := 0) d_S_listCarrying_32 rfl ?_
      refine vj_istore_n G (lv2 := [(2, .int (i32 0)), (0, .ref (wa w 4)), (1, .int (i32 x1))]) d_S_listCarrying_33 rfl (by decide) rfl ?_
      refine vj_sub [1, 2, 0] rfl ?_
      exact wl_S_listCarrying_34 G0 n k16 hk16 n x1 0 hx1 ic_0 _ hF
set_option maxHeartbeats 4000000 in
set_option maxRecDepth 100000 in
theorem wl_S_listCarrying_16 {w : Wd} {X : Cx} {r : Int} {M9 : Mm} (G0 : Gx LC w X "WhoRules$Search" b_S_listCarrying 3 3 68 none) (n : Nat) : ∀ (f : Nat) (x1 : Int) (hx1 : inR x1) (M : Mm), lp_S_listCarrying_16 n f x1 M = some (r, M9) → VJ LC w X 3 0 r M9 M [(0, .ref (wa w 4)), (1, .int (i32 x1))] [] 16 := by
  intro f
  induction f with
  | zero => intro x1 hx1 M hF; cases hF
  | succ f ih => intro x1 hx1 M hF; exact wk_S_listCarrying_16 G0 n (lp_S_listCarrying_16 n f) ih x1 hx1 M hF
set_option maxHeartbeats 4000000 in
set_option maxRecDepth 100000 in
theorem ct_S_listCarrying {w : Wd} (hij : ij LC w) (n : Nat) {M : Mm} {r : Int} {M9 : Mm} (hF : f_S_listCarrying n  M = some (r, M9)) : Ct LC w y_S_listCarrying b_S_listCarrying 3 none 3 68 0 [.ref (wa w 4)] M r M9 := by
  refine Ct.of hij KstC (by decide +kernel) (Nat.le_of_ble_eq_true rfl) (fun X G0 => ?_)
  have G := G0.1
  show VJ LC w X 3 0 r M9 M [(0, .ref (wa w 4))] [] 0
  unfold f_S_listCarrying at hF
  refine vj_aload_n G (p9 := 0) d_S_listCarrying_0 rfl rfl ?_
  refine gfC_S_42 G d_S_listCarrying_1 ?_
  obtain ⟨r1, M1, e1, hF⟩ := bnd_some hF
  refine vj_callV0 G (ct_U_tally (gx_ij G) n   e1) lkC_3 clC_9 rfl q_906 cq_U_tally rfl (by decide) (by decide) (Nat.le_of_ble_eq_true rfl) d_S_listCarrying_4 rfl (fun hr1 => ?_)
  refine vj_aload_n G (p9 := 0) d_S_listCarrying_7 rfl rfl ?_
  refine gfC_S_42 G d_S_listCarrying_8 ?_
  obtain ⟨r2, M2, e2, hF⟩ := bnd_some hF
  refine vj_callV0 G (ct_U_clear (gx_ij G) n   e2) lkC_3 clC_9 rfl q_907 cq_U_clear rfl (by decide) (by decide) (Nat.le_of_ble_eq_true rfl) d_S_listCarrying_11 rfl (fun hr2 => ?_)
  refine vj_iconst G (v := 0) d_S_listCarrying_14 rfl ?_
  refine vj_istore_n G (lv2 := [(1, .int (i32 0)), (0, .ref (wa w 4))]) d_S_listCarrying_15 rfl (by decide) rfl ?_
  refine vj_sub [1, 0] rfl ?_
  exact wl_S_listCarrying_16 G0 n  n 0 ic_0 _ hF
set_option maxHeartbeats 4000000 in
set_option maxRecDepth 100000 in
theorem wk_S_setRow_24 {w : Wd} {X : Cx} {r : Int} {M9 : Mm} (G0 : Gx LC w X "WhoRules$Search" b_S_setRow 4 1 23 none) (n : Nat) (k24 : Int → Int → Mm → Rr) (hk24 : ∀ (x2 x3 : Int) (hx2 : inR x2) (hx3 : inR x3) (M : Mm), k24 x2 x3 M = some (r, M9) → VJ LC w X 4 0 r M9 M [(0, .ref (wa w 4)), (2, .int (i32 x2)), (3, .int (i32 x3))] [] 24) (x2 x3 : Int) (hx2 : inR x2) (hx3 : inR x3) (M : Mm) (hF : f_S_setRow_24 n k24 x2 x3 M = some (r, M9)) : VJ LC w X 4 0 r M9 M [(0, .ref (wa w 4)), (2, .int (i32 x2)), (3, .int (i32 x3))] [] 24 := by
  have G := G0.1
  unfold f_S_setRow_24 at hF
  refine vj_iload_n G (p9 := 2) d_S_setRow_24 rfl rfl ?_
  refine vj_if_lt G (tgt := 88) d_S_setRow_25 (by decide) hx3 (fun c1 => ?_) (fun c1 => ?_)
  · rw [if_pos c1] at hF
    cases hF
    exact vj_vret G0 d_S_setRow_88
  · rw [if_neg c1] at hF
    refine vj_aload_n G (p9 := 0) d_S_setRow_28 rfl rfl ?_
    refine gfC_S_20 G d_S_setRow_29 ?_
    refine vj_iload_n G (p9 := 2) d_S_setRow_32 rfl rfl ?_
    refine vj_iload_n G (p9 := 1) d_S_setRow_33 rfl rfl ?_
    refine vj_aload_n G (p9 := 0) d_S_setRow_34 rfl rfl ?_
    refine gfC_S_38 G d_S_setRow_35 ?_
    refine gfC_S_55 G d_S_setRow_38 ?_
    refine vj_mr (fun hM2 => ?_)
    refine vj_iconst G (v := 4) d_S_setRow_41 rfl ?_
    refine vj_mmin G (mr_o hM2 lkC_1 flC_7_3) ic_4 q_917 q_846 q_127 q_847 (by decide) (by decide) (Nat.le_of_ble_eq_true rfl) d_S_setRow_42 ?_
    refine vj_iconst G (v := 1) d_S_setRow_45 rfl ?_
    refine vj_iadd G d_S_setRow_46 ?_
    obtain ⟨c3, hF⟩ := ck_some hF
    refine vj_irem G d_S_setRow_47 (ir_w _) c3 ?_
    obtain ⟨c4, hF⟩ := ck_some hF
    refine vj_iast G (x := x3) lkC_50 (by decide) (by decide) (by decide) c4 (ir_rm _ _) d_S_setRow_48 ?_
    refine vj_iload_n G (p9 := 1) d_S_setRow_49 rfl rfl ?_
    refine vj_aload_n G (p9 := 0) d_S_setRow_50 rfl rfl ?_
    refine gfC_S_38 G d_S_setRow_51 ?_
    refine gfC_S_55 G d_S_setRow_54 ?_
    refine vj_mr (fun hM5 => ?_)
    refine vj_iconst G (v := 4) d_S_setRow_57 rfl ?_
    refine vj_mmin G (mr_o hM5 lkC_1 flC_7_3) ic_4 q_917 q_846 q_127 q_847 (by decide) (by decide) (Nat.le_of_ble_eq_true rfl) d_S_setRow_58 ?_
    refine vj_iconst G (v := 1) d_S_setRow_61 rfl ?_
    refine vj_iadd G d_S_setRow_62 ?_
    obtain ⟨c6, hF⟩ := ck_some hF
    refine vj_idiv G d_S_setRow_63 (ir_w _) c6 ?_
    refine vj_istore_n G (lv2 := [(2, .int (i32 (idv x2 (w32 ((min ((mset M 50 x3.toNat (irm x2 (w32 ((min (M 1 3) 4) + 1)))) 1 3) 4) + 1))))), (0, .ref (wa w 4)), (3, .int (i32 x3))]) d_S_setRow_64 rfl (by decide) rfl ?_
    refine vj_aload_n G (p9 := 1) d_S_setRow_65 rfl rfl ?_
    refine gfC_S_23 G d_S_setRow_66 ?_
    refine vj_aload_n G (p9 := 1) d_S_setRow_69 rfl rfl ?_
    refine gfC_S_20 G d_S_setRow_70 ?_
    refine vj_iload_n G (p9 := 2) d_S_setRow_73 rfl rfl ?_
    obtain ⟨c7, hF⟩ := ck_some hF
    refine vj_iald G (x := x3) lkC_50 (by decide) c7 d_S_setRow_74 ?_
    refine vj_dup2_11 G d_S_setRow_75 rfl rfl ?_
    obtain ⟨c8, hF⟩ := ck_some hF
    refine vj_iald G (x := ((mset M 50 x3.toNat (irm x2 (w32 ((min (M 1 3) 4) + 1)))) 50 x3.toNat)) lkC_51 (by decide) c8 d_S_setRow_76 ?_
    refine vj_iconst G (v := 1) d_S_setRow_77 rfl ?_
    refine vj_iload_n G (p9 := 2) d_S_setRow_78 rfl rfl ?_
    refine vj_ishl G d_S_setRow_79 ?_
    refine vj_ior G d_S_setRow_80 ?_
    obtain ⟨c9, hF⟩ := ck_some hF
    refine vj_iast G (x := ((mset M 50 x3.toNat (irm x2 (w32 ((min (M 1 3) 4) + 1)))) 50 x3.toNat)) lkC_51 (by decide) (by decide) (by decide) c9 (ir_or _ _) d_S_setRow_81 ?_
    refine vj_iinc G (p9 := 2) (n := (-1)) (lv2 := [(3, .int (i32 (w32 (x3 + (-1))))), (2, .int (i32 (idv x2 (w32 ((min ((mset M 50 x3.toNat (irm x2 (w32 ((min (M 1 3) 4) + 1)))) 1 3) 4) + 1))))), (0, .ref (wa w 4))]) d_S_setRow_82 rfl (by decide) rfl ?_
    refine vj_goto G (tgt := 24) d_S_setRow_85 (by decide) ?_
    refine vj_sub [2, 1, 0] rfl ?_
    exact hk24 (idv x2 (w32 ((min ((mset M 50 x3.toNat (irm x2 (w32 ((min (M 1 3) 4) + 1)))) 1 3) 4) + 1))) (w32 (x3 + (-1))) (ir_dv _ _) (ir_w _) _ hF
set_option maxHeartbeats 4000000 in
set_option maxRecDepth 100000 in
theorem wl_S_setRow_24 {w : Wd} {X : Cx} {r : Int} {M9 : Mm} (G0 : Gx LC w X "WhoRules$Search" b_S_setRow 4 1 23 none) (n : Nat) : ∀ (f : Nat) (x2 x3 : Int) (hx2 : inR x2) (hx3 : inR x3) (M : Mm), lp_S_setRow_24 n f x2 x3 M = some (r, M9) → VJ LC w X 4 0 r M9 M [(0, .ref (wa w 4)), (2, .int (i32 x2)), (3, .int (i32 x3))] [] 24 := by
  intro f
  induction f with
  | zero => intro x2 x3 hx2 hx3 M hF; cases hF
  | succ f ih => intro x2 x3 hx2 hx3 M hF; exact wk_S_setRow_24 G0 n (lp_S_setRow_24 n f) ih x2 x3 hx2 hx3 M hF
set_option maxHeartbeats 4000000 in
set_option maxRecDepth 100000 in
theorem ct_S_setRow {w : Wd} (hij : ij LC w) (n : Nat) (x1 : Int) (hx1 : inR x1) {M : Mm} {r : Int} {M9 : Mm} (hF : f_S_setRow n x1 M = some (r, M9)) : Ct LC w y_S_setRow b_S_setRow 4 none 1 23 0 [.ref (wa w 4), .int (i32 x1)] M r M9 := by
  refine Ct.of hij KstC (by decide +kernel) (Nat.le_of_ble_eq_true rfl) (fun X G0 => ?_)
  have G := G0.1
  show VJ LC w X 4 0 r M9 M [(0, .ref (wa w 4)), (1, .int (i32 x1))] [] 0
  unfold f_S_setRow at hF
  refine vj_iload_n G (p9 := 1) d_S_setRow_0 rfl rfl ?_
  refine vj_istore_n G (lv2 := [(2, .int (i32 x1)), (0, .ref (wa w 4)), (1, .int (i32 x1))]) d_S_setRow_1 rfl (by decide) rfl ?_
  refine vj_aload_n G (p9 := 1) d_S_setRow_2 rfl rfl ?_
  refine gfC_S_23 G d_S_setRow_3 ?_
  refine vj_iconst G (v := 0) d_S_setRow_6 rfl ?_
  refine vj_fillI G lkC_51 (by decide) (by decide) (by decide) q_916 ic_0 (by decide) (by decide) (by decide) d_S_setRow_7 ?_
  refine vj_aload_n G (p9 := 1) d_S_setRow_10 rfl rfl ?_
  refine gfC_S_38 G d_S_setRow_11 ?_
  refine gfC_S_49 G d_S_setRow_14 ?_
  refine vj_mr (fun hM1 => ?_)
  refine vj_iconst G (v := 5) d_S_setRow_17 rfl ?_
  refine vj_mmin G (mr_o hM1 lkC_1 flC_7_2) ic_5 q_917 q_846 q_127 q_847 (by decide) (by decide) (Nat.le_of_ble_eq_true rfl) d_S_setRow_18 ?_
  refine vj_iconst G (v := 1) d_S_setRow_21 rfl ?_
  refine vj_isub G d_S_setRow_22 ?_
  refine vj_istore_n G (lv2 := [(3, .int (i32 (w32 ((min ((mfil M 51 5 0) 1 2) 5) - 1)))), (2, .int (i32 x1)), (0, .ref (wa w 4)), (1, .int (i32 x1))]) d_S_setRow_23 rfl (by decide) rfl ?_
  refine vj_sub [2, 1, 0] rfl ?_
  exact wl_S_setRow_24 G0 n  n x1 (w32 ((min ((mfil M 51 5 0) 1 2) 5) - 1)) hx1 (ir_w _) _ hF
set_option maxHeartbeats 4000000 in
set_option maxRecDepth 100000 in
theorem ct_S_carriesInRow {w : Wd} (hij : ij LC w) (n : Nat) (x1 x2 : Int) (hx1 : inR x1) (hx2 : inR x2) {M : Mm} {r : Int} {M9 : Mm} (hF : f_S_carriesInRow n x1 x2 M = some (r, M9)) : Ct LC w y_S_carriesInRow b_S_carriesInRow 3 (some .boolean) 0 0 3 [.ref (wa w 4), .int (i32 x1), .int (i32 x2)] M r M9 := by
  refine Ct.of hij KstC (by decide +kernel) (Nat.le_of_ble_eq_true rfl) (fun X G0 => ?_)
  have G := G0.1
  show VJ LC w X 3 3 r M9 M [(0, .ref (wa w 4)), (1, .int (i32 x1)), (2, .int (i32 x2))] [] 0
  unfold f_S_carriesInRow at hF
  refine vj_aload_n G (p9 := 0) d_S_carriesInRow_0 rfl rfl ?_
  refine gfC_S_17 G d_S_carriesInRow_1 ?_
  refine vj_iload_n G (p9 := 1) d_S_carriesInRow_4 rfl rfl ?_
  obtain ⟨c1, hF⟩ := ck_some hF
  refine vj_aald5 G (x := x1) lkC_49 (by decide) c1 d_S_carriesInRow_5 ?_
  refine vj_iload_n G (p9 := 2) d_S_carriesInRow_6 rfl rfl ?_
  obtain ⟨c2, hF⟩ := ck_some hF
  refine vj_iald G (x := x2) (lkC_r170 c1) (by decide) c2 d_S_carriesInRow_7 ?_
  refine vj_mr (fun hM3 => ?_)
  refine vj_aload_n G (p9 := 0) d_S_carriesInRow_8 rfl rfl ?_
  refine gfC_S_23 G d_S_carriesInRow_9 ?_
  refine vj_iload_n G (p9 := 2) d_S_carriesInRow_12 rfl rfl ?_
  refine vj_iconst G (v := 1) d_S_carriesInRow_13 rfl ?_
  refine vj_iadd G d_S_carriesInRow_14 ?_
  obtain ⟨c4, hF⟩ := ck_some hF
  refine vj_iald G (x := w32 (x2 + 1)) lkC_51 (by decide) c4 d_S_carriesInRow_15 ?_
  refine vj_ishr G d_S_carriesInRow_16 ?_
  refine vj_iconst G (v := 1) d_S_carriesInRow_17 rfl ?_
  refine vj_iand G d_S_carriesInRow_18 ?_
  refine vj_iconst G (v := 1) d_S_carriesInRow_19 rfl ?_
  refine vj_icmp_ne G (tgt := 27) d_S_carriesInRow_20 (by decide) (ir_an _ _) ic_1 (fun c5 => ?_) (fun c5 => ?_)
  · rw [if_pos c5] at hF
    refine vj_iconst G (v := 0) d_S_carriesInRow_27 rfl ?_
    cases hF
    exact vj_zret G0 (Or.inl rfl) d_S_carriesInRow_28
  · rw [if_neg c5] at hF
    refine vj_iconst G (v := 1) d_S_carriesInRow_23 rfl ?_
    refine vj_goto G (tgt := 28) d_S_carriesInRow_24 (by decide) ?_
    cases hF
    exact vj_zret G0 (Or.inr rfl) d_S_carriesInRow_28
set_option maxHeartbeats 4000000 in
set_option maxRecDepth 100000 in
theorem wk_S_isCarriedInRow_2 {w : Wd} {X : Cx} {r : Int} {M9 : Mm} (G0 : Gx LC w X "WhoRules$Search" b_S_isCarriedInRow 3 1 22 (some .boolean)) (n : Nat) (k2 : Int → Int → Mm → Rr) (hk2 : ∀ (x1 x2 : Int) (hx1 : inR x1) (hx2 : inR x2) (M : Mm), k2 x1 x2 M = some (r, M9) → VJ LC w X 3 3 r M9 M [(0, .ref (wa w 4)), (1, .int (i32 x1)), (2, .int (i32 x2))] [] 2) (x1 x2 : Int) (hx1 : inR x1) (hx2 : inR x2) (M : Mm) (hF : f_S_isCarriedInRow_2 n k2 x1 x2 M = some (r, M9)) : VJ LC w X 3 3 r M9 M [(0, .ref (wa w 4)), (1, .int (i32 x1)), (2, .int (i32 x2))] [] 2 := by
  have G := G0.1
  unfold f_S_isCarriedInRow_2 at hF
  refine vj_iload_n G (p9 := 2) d_S_isCarriedInRow_2 rfl rfl ?_
  refine vj_aload_n G (p9 := 0) d_S_isCarriedInRow_3 rfl rfl ?_
  refine gfC_S_38 G d_S_isCarriedInRow_4 ?_
  refine gfC_S_55 G d_S_isCarriedInRow_7 ?_
  refine vj_mr (fun hM1 => ?_)
  refine vj_icmp_ge G (tgt := 35) d_S_isCarriedInRow_10 (by decide) hx2 (mr_o hM1 lkC_1 flC_7_3) (fun c2 => ?_) (fun c2 => ?_)
  · rw [if_pos c2] at hF
    refine vj_iconst G (v := 0) d_S_isCarriedInRow_35 rfl ?_
    cases hF
    exact vj_zret G0 (Or.inl rfl) d_S_isCarriedInRow_36
  · rw [if_neg c2] at hF
    refine vj_iload_n G (p9 := 2) d_S_isCarriedInRow_13 rfl rfl ?_
    refine vj_iconst G (v := 4) d_S_isCarriedInRow_14 rfl ?_
    refine vj_icmp_ge G (tgt := 35) d_S_isCarriedInRow_15 (by decide) hx2 ic_4 (fun c3 => ?_) (fun c3 => ?_)
    · rw [if_pos c3] at hF
      refine vj_iconst G (v := 0) d_S_isCarriedInRow_35 rfl ?_
      cases hF
      exact vj_zret G0 (Or.inl rfl) d_S_isCarriedInRow_36
    · rw [if_neg c3] at hF
      refine vj_aload_n G (p9 := 0) d_S_isCarriedInRow_18 rfl rfl ?_
      refine vj_iload_n G (p9 := 1) d_S_isCarriedInRow_19 rfl rfl ?_
      refine vj_iload_n G (p9 := 2) d_S_isCarriedInRow_20 rfl rfl ?_
      obtain ⟨r4, M4, e4, hF⟩ := bnd_some hF
      refine vj_callV3 G (ct_S_carriesInRow (gx_ij G) n x1 x2 hx1 hx2 e4) lkC_4 clC_10 rfl q_922 cq_S_carriesInRow rfl (by decide) (by decide) (Nat.le_of_ble_eq_true rfl) d_S_isCarriedInRow_21 rfl (fun hr4 => ?_)
      refine vj_if_eq G (tgt := 29) d_S_isCarriedInRow_24 (by decide) (ir_b hr4) (fun c5 => ?_) (fun c5 => ?_)
      · rw [if_pos c5] at hF
        refine vj_iinc G (p9 := 2) (n := 1) (lv2 := [(2, .int (i32 (w32 (x2 + 1)))), (0, .ref (wa w 4)), (1, .int (i32 x1))]) d_S_isCarriedInRow_29 rfl (by decide) rfl ?_
        refine vj_goto G (tgt := 2) d_S_isCarriedInRow_32 (by decide) ?_
        refine vj_sub [1, 2, 0] rfl ?_
        exact hk2 x1 (w32 (x2 + 1)) hx1 (ir_w _) _ hF
      · rw [if_neg c5] at hF
        refine vj_iconst G (v := 1) d_S_isCarriedInRow_27 rfl ?_
        cases hF
        exact vj_zret G0 (Or.inr rfl) d_S_isCarriedInRow_28
set_option maxHeartbeats 4000000 in
set_option maxRecDepth 100000 in
theorem wl_S_isCarriedInRow_2 {w : Wd} {X : Cx} {r : Int} {M9 : Mm} (G0 : Gx LC w X "WhoRules$Search" b_S_isCarriedInRow 3 1 22 (some .boolean)) (n : Nat) : ∀ (f : Nat) (x1 x2 : Int) (hx1 : inR x1) (hx2 : inR x2) (M : Mm), lp_S_isCarriedInRow_2 n f x1 x2 M = some (r, M9) → VJ LC w X 3 3 r M9 M [(0, .ref (wa w 4)), (1, .int (i32 x1)), (2, .int (i32 x2))] [] 2 := by
  intro f
  induction f with
  | zero => intro x1 x2 hx1 hx2 M hF; cases hF
  | succ f ih => intro x1 x2 hx1 hx2 M hF; exact wk_S_isCarriedInRow_2 G0 n (lp_S_isCarriedInRow_2 n f) ih x1 x2 hx1 hx2 M hF
set_option maxHeartbeats 4000000 in
set_option maxRecDepth 100000 in
theorem ct_S_isCarriedInRow {w : Wd} (hij : ij LC w) (n : Nat) (x1 : Int) (hx1 : inR x1) {M : Mm} {r : Int} {M9 : Mm} (hF : f_S_isCarriedInRow n x1 M = some (r, M9)) : Ct LC w y_S_isCarriedInRow b_S_isCarriedInRow 3 (some .boolean) 1 22 3 [.ref (wa w 4), .int (i32 x1)] M r M9 := by
  refine Ct.of hij KstC (by decide +kernel) (Nat.le_of_ble_eq_true rfl) (fun X G0 => ?_)
  have G := G0.1
  show VJ LC w X 3 3 r M9 M [(0, .ref (wa w 4)), (1, .int (i32 x1))] [] 0
  unfold f_S_isCarriedInRow at hF
  refine vj_iconst G (v := 0) d_S_isCarriedInRow_0 rfl ?_
  refine vj_istore_n G (lv2 := [(2, .int (i32 0)), (0, .ref (wa w 4)), (1, .int (i32 x1))]) d_S_isCarriedInRow_1 rfl (by decide) rfl ?_
  refine vj_sub [1, 2, 0] rfl ?_
  exact wl_S_isCarriedInRow_2 G0 n  n x1 0 hx1 ic_0 _ hF
set_option maxHeartbeats 4000000 in
set_option maxRecDepth 100000 in
theorem wk_S_rowFits_56 {w : Wd} {X : Cx} {r : Int} {M9 : Mm} (G0 : Gx LC w X "WhoRules$Search" b_S_rowFits 2 2 44 (some .boolean)) (n : Nat) (k2 : Int → Mm → Rr) (hk2 : ∀ (x1 : Int) (hx1 : inR x1) (M : Mm), k2 x1 M = some (r, M9) → VJ LC w X 2 3 r M9 M [(0, .ref (wa w 4)), (1, .int (i32 x1))] [] 2) (x1 : Int) (hx1 : inR x1) (M : Mm) (hF : f_S_rowFits_56 n k2 x1 M = some (r, M9)) : VJ LC w X 2 3 r M9 M [(0, .ref (wa w 4)), (1, .int (i32 x1))] [] 56 := by
  have G := G0.1
  unfold f_S_rowFits_56 at hF
  refine vj_iinc G (p9 := 1) (n := 1) (lv2 := [(1, .int (i32 (w32 (x1 + 1)))), (0, .ref (wa w 4))]) d_S_rowFits_56 rfl (by decide) rfl ?_
  refine vj_goto G (tgt := 2) d_S_rowFits_59 (by decide) ?_
  refine vj_sub [1, 0] rfl ?_
  exact hk2 (w32 (x1 + 1)) (ir_w _) _ hF
set_option maxHeartbeats 4000000 in
set_option maxRecDepth 100000 in
theorem wk_S_rowFits_2 {w : Wd} {X : Cx} {r : Int} {M9 : Mm} (G0 : Gx LC w X "WhoRules$Search" b_S_rowFits 2 2 44 (some .boolean)) (n : Nat) (k2 : Int → Mm → Rr) (hk2 : ∀ (x1 : Int) (hx1 : inR x1) (M : Mm), k2 x1 M = some (r, M9) → VJ LC w X 2 3 r M9 M [(0, .ref (wa w 4)), (1, .int (i32 x1))] [] 2) (x1 : Int) (hx1 : inR x1) (M : Mm) (hF : f_S_rowFits_2 n k2 x1 M = some (r, M9)) : VJ LC w X 2 3 r M9 M [(0, .ref (wa w 4)), (1, .int (i32 x1))] [] 2 := by
  have G := G0.1
  unfold f_S_rowFits_2 at hF
  refine vj_iload_n G (p9 := 1) d_S_rowFits_2 rfl rfl ?_
  refine vj_aload_n G (p9 := 0) d_S_rowFits_3 rfl rfl ?_
  refine gfC_S_38 G d_S_rowFits_4 ?_
  refine gfC_S_49 G d_S_rowFits_7 ?_
  refine vj_mr (fun hM1 => ?_)
  refine vj_icmp_ge G (tgt := 62) d_S_rowFits_10 (by decide) hx1 (mr_o hM1 lkC_1 flC_7_2) (fun c2 => ?_) (fun c2 => ?_)
  · rw [if_pos c2] at hF
    refine vj_iconst G (v := 1) d_S_rowFits_62 rfl ?_
    cases hF
    exact vj_zret G0 (Or.inr rfl) d_S_rowFits_63
  · rw [if_neg c2] at hF
    refine vj_iload_n G (p9 := 1) d_S_rowFits_13 rfl rfl ?_
    refine vj_iconst G (v := 5) d_S_rowFits_14 rfl ?_
    refine vj_icmp_ge G (tgt := 62) d_S_rowFits_15 (by decide) hx1 ic_5 (fun c3 => ?_) (fun c3 => ?_)
    · rw [if_pos c3] at hF
      refine vj_iconst G (v := 1) d_S_rowFits_62 rfl ?_
      cases hF
      exact vj_zret G0 (Or.inr rfl) d_S_rowFits_63
    · rw [if_neg c3] at hF
      refine vj_aload_n G (p9 := 0) d_S_rowFits_18 rfl rfl ?_
      refine gfC_S_20 G d_S_rowFits_19 ?_
      refine vj_iload_n G (p9 := 1) d_S_rowFits_22 rfl rfl ?_
      obtain ⟨c4, hF⟩ := ck_some hF
      refine vj_iald G (x := x1) lkC_50 (by decide) c4 d_S_rowFits_23 ?_
      refine vj_mr (fun hM5 => ?_)
      refine vj_if_le G (tgt := 46) d_S_rowFits_24 (by decide) (mr_a hM5 lkC_50) (fun c6 => ?_) (fun c6 => ?_)
      · rw [if_pos c6] at hF
        refine vj_aload_n G (p9 := 0) d_S_rowFits_46 rfl rfl ?_
        refine vj_iload_n G (p9 := 1) d_S_rowFits_47 rfl rfl ?_
        obtain ⟨r7, M7, e7, hF⟩ := bnd_some hF
        refine vj_callV3 G (ct_S_isCarriedInRow (gx_ij G) n x1 hx1 e7) lkC_4 clC_10 rfl q_926 cq_S_isCarriedInRow rfl (by decide) (by decide) (Nat.le_of_ble_eq_true rfl) d_S_rowFits_48 rfl (fun hr7 => ?_)
        refine vj_if_eq G (tgt := 56) d_S_rowFits_51 (by decide) (ir_b hr7) (fun c8 => ?_) (fun c8 => ?_)
        · rw [if_pos c8] at hF
          exact wk_S_rowFits_56 G0 n k2 hk2 x1 hx1 _ hF
        · rw [if_neg c8] at hF
          refine vj_iconst G (v := 0) d_S_rowFits_54 rfl ?_
          cases hF
          exact vj_zret G0 (Or.inl rfl) d_S_rowFits_55
      · rw [if_neg c6] at hF
        refine vj_aload_n G (p9 := 0) d_S_rowFits_27 rfl rfl ?_
        refine vj_iload_n G (p9 := 1) d_S_rowFits_28 rfl rfl ?_
        refine vj_aload_n G (p9 := 0) d_S_rowFits_29 rfl rfl ?_
        refine gfC_S_20 G d_S_rowFits_30 ?_
        refine vj_iload_n G (p9 := 1) d_S_rowFits_33 rfl rfl ?_
        obtain ⟨c9, hF⟩ := ck_some hF
        refine vj_iald G (x := x1) lkC_50 (by decide) c9 d_S_rowFits_34 ?_
        refine vj_mr (fun hM10 => ?_)
        refine vj_iconst G (v := 1) d_S_rowFits_35 rfl ?_
        refine vj_isub G d_S_rowFits_36 ?_
        obtain ⟨r11, M11, e11, hF⟩ := bnd_some hF
        refine vj_callV3 G (ct_S_carriesInRow (gx_ij G) n x1 (w32 ((M 50 x1.toNat) - 1)) hx1 (ir_w _) e11) lkC_4 clC_10 rfl q_922 cq_S_carriesInRow rfl (by decide) (by decide) (Nat.le_of_ble_eq_true rfl) d_S_rowFits_37 rfl (fun hr11 => ?_)
        refine vj_if_ne G (tgt := 56) d_S_rowFits_40 (by decide) (ir_b hr11) (fun c12 => ?_) (fun c12 => ?_)
        · rw [if_pos c12] at hF
          exact wk_S_rowFits_56 G0 n k2 hk2 x1 hx1 _ hF
        · rw [if_neg c12] at hF
          refine vj_goto G (tgt := 54) d_S_rowFits_43 (by decide) ?_
          refine vj_iconst G (v := 0) d_S_rowFits_54 rfl ?_
          cases hF
          exact vj_zret G0 (Or.inl rfl) d_S_rowFits_55
set_option maxHeartbeats 4000000 in
set_option maxRecDepth 100000 in
theorem wl_S_rowFits_2 {w : Wd} {X : Cx} {r : Int} {M9 : Mm} (G0 : Gx LC w X "WhoRules$Search" b_S_rowFits 2 2 44 (some .boolean)) (n : Nat) : ∀ (f : Nat) (x1 : Int) (hx1 : inR x1) (M : Mm), lp_S_rowFits_2 n f x1 M = some (r, M9) → VJ LC w X 2 3 r M9 M [(0, .ref (wa w 4)), (1, .int (i32 x1))] [] 2 := by
  intro f
  induction f with
  | zero => intro x1 hx1 M hF; cases hF
  | succ f ih => intro x1 hx1 M hF; exact wk_S_rowFits_2 G0 n (lp_S_rowFits_2 n f) ih x1 hx1 M hF
set_option maxHeartbeats 4000000 in
set_option maxRecDepth 100000 in
theorem ct_S_rowFits {w : Wd} (hij : ij LC w) (n : Nat) {M : Mm} {r : Int} {M9 : Mm} (hF : f_S_rowFits n  M = some (r, M9)) : Ct LC w y_S_rowFits b_S_rowFits 2 (some .boolean) 2 44 3 [.ref (wa w 4)] M r M9 := by
  refine Ct.of hij KstC (by decide +kernel) (Nat.le_of_ble_eq_true rfl) (fun X G0 => ?_)
  have G := G0.1
  show VJ LC w X 2 3 r M9 M [(0, .ref (wa w 4))] [] 0
  unfold f_S_rowFits at hF
  refine vj_iconst G (v := 0) d_S_rowFits_0 rfl ?_
  refine vj_istore_n G (lv2 := [(1, .int (i32 0)), (0, .ref (wa w 4))]) d_S_rowFits_1 rfl (by decide) rfl ?_
  refine vj_sub [1, 0] rfl ?_
  exact wl_S_rowFits_2 G0 n  n 0 ic_0 _ hF
set_option maxHeartbeats 4000000 in
set_option maxRecDepth 100000 in
theorem wk_S_rulerInRow_57 {w : Wd} {X : Cx} {r : Int} {M9 : Mm} (G0 : Gx LC w X "WhoRules$Search" b_S_rulerInRow 3 0 0 (some .int)) (n : Nat) (k2 : Int → Int → Mm → Rr) (hk2 : ∀ (x1 x2 : Int) (hx1 : inR x1) (hx2 : inR x2) (M : Mm), k2 x1 x2 M = some (r, M9) → VJ LC w X 3 1 r M9 M [(0, .ref (wa w 4)), (1, .int (i32 x1)), (2, .int (i32 x2))] [] 2) (x1 x2 : Int) (hx1 : inR x1) (hx2 : inR x2) (M : Mm) (hF : f_S_rulerInRow_57 n k2 x1 x2 M = some (r, M9)) : VJ LC w X 3 1 r M9 M [(0, .ref (wa w 4)), (1, .int (i32 x1)), (2, .int (i32 x2))] [] 57 := by
  have G := G0.1
  unfold f_S_rulerInRow_57 at hF
  refine vj_iinc G (p9 := 2) (n := 1) (lv2 := [(2, .int (i32 (w32 (x2 + 1)))), (0, .ref (wa w 4)), (1, .int (i32 x1))]) d_S_rulerInRow_57 rfl (by decide) rfl ?_
  refine vj_goto G (tgt := 2) d_S_rulerInRow_60 (by decide) ?_
  refine vj_sub [1, 2, 0] rfl ?_
  exact hk2 x1 (w32 (x2 + 1)) hx1 (ir_w _) _ hF
set_option maxHeartbeats 4000000 in
set_option maxRecDepth 100000 in
theorem wk_S_rulerInRow_2 {w : Wd} {X : Cx} {r : Int} {M9 : Mm} (G0 : Gx LC w X "WhoRules$Search" b_S_rulerInRow 3 0 0 (some .int)) (n : Nat) (k2 : Int → Int → Mm → Rr) (hk2 : ∀ (x1 x2 : Int) (hx1 : inR x1) (hx2 : inR x2) (M : Mm), k2 x1 x2 M = some (r, M9) → VJ LC w X 3 1 r M9 M [(0, .ref (wa w 4)), (1, .int (i32 x1)), (2, .int (i32 x2))] [] 2) (x1 x2 : Int) (hx1 : inR x1) (hx2 : inR x2) (M : Mm) (hF : f_S_rulerInRow_2 n k2 x1 x2 M = some (r, M9)) : VJ LC w X 3 1 r M9 M [(0, .ref (wa w 4)), (1, .int (i32 x1)), (2, .int (i32 x2))] [] 2 := by
  have G := G0.1
  unfold f_S_rulerInRow_2 at hF
  refine vj_iload_n G (p9 := 2) d_S_rulerInRow_2 rfl rfl ?_
  refine vj_aload_n G (p9 := 0) d_S_rulerInRow_3 rfl rfl ?_
  refine gfC_S_38 G d_S_rulerInRow_4 ?_
  refine gfC_S_49 G d_S_rulerInRow_7 ?_
  refine vj_mr (fun hM1 => ?_)
  refine vj_icmp_ge G (tgt := 63) d_S_rulerInRow_10 (by decide) hx2 (mr_o hM1 lkC_1 flC_7_2) (fun c2 => ?_) (fun c2 => ?_)
  · rw [if_pos c2] at hF
    refine vj_bipush G (v := (-5)) d_S_rulerInRow_63 rfl ?_
    cases hF
    exact vj_iret G0 ic_m5 d_S_rulerInRow_65
  · rw [if_neg c2] at hF
    refine vj_iload_n G (p9 := 2) d_S_rulerInRow_13 rfl rfl ?_
    refine vj_iconst G (v := 5) d_S_rulerInRow_14 rfl ?_
    refine vj_icmp_ge G (tgt := 63) d_S_rulerInRow_15 (by decide) hx2 ic_5 (fun c3 => ?_) (fun c3 => ?_)
    · rw [if_pos c3] at hF
      refine vj_bipush G (v := (-5)) d_S_rulerInRow_63 rfl ?_
      cases hF
      exact vj_iret G0 ic_m5 d_S_rulerInRow_65
    · rw [if_neg c3] at hF
      refine vj_aload_n G (p9 := 0) d_S_rulerInRow_18 rfl rfl ?_
      refine gfC_S_38 G d_S_rulerInRow_19 ?_
      refine gfC_S_78 G d_S_rulerInRow_22 ?_
      refine vj_iload_n G (p9 := 2) d_S_rulerInRow_25 rfl rfl ?_
      obtain ⟨c4, hF⟩ := ck_some hF
      refine vj_iald G (x := x2) lkC_19 (by decide) c4 d_S_rulerInRow_26 ?_
      refine vj_mr (fun hM5 => ?_)
      refine vj_iload_n G (p9 := 1) d_S_rulerInRow_27 rfl rfl ?_
      refine vj_icmp_ne G (tgt := 57) d_S_rulerInRow_28 (by decide) (mr_a hM5 lkC_19) hx1 (fun c6 => ?_) (fun c6 => ?_)
      · rw [if_pos c6] at hF
        exact wk_S_rulerInRow_57 G0 n k2 hk2 x1 x2 hx1 hx2 _ hF
      · rw [if_neg c6] at hF
        refine vj_aload_n G (p9 := 0) d_S_rulerInRow_31 rfl rfl ?_
        refine gfC_S_20 G d_S_rulerInRow_32 ?_
        refine vj_iload_n G (p9 := 2) d_S_rulerInRow_35 rfl rfl ?_
        obtain ⟨c7, hF⟩ := ck_some hF
        refine vj_iald G (x := x2) lkC_50 (by decide) c7 d_S_rulerInRow_36 ?_
        refine vj_mr (fun hM8 => ?_)
        refine vj_if_le G (tgt := 57) d_S_rulerInRow_37 (by decide) (mr_a hM8 lkC_50) (fun c9 => ?_) (fun c9 => ?_)
        · rw [if_pos c9] at hF
          exact wk_S_rulerInRow_57 G0 n k2 hk2 x1 x2 hx1 hx2 _ hF
        · rw [if_neg c9] at hF
          refine vj_aload_n G (p9 := 0) d_S_rulerInRow_40 rfl rfl ?_
          refine gfC_S_38 G d_S_rulerInRow_41 ?_
          refine gfC_S_81 G d_S_rulerInRow_44 ?_
          refine vj_aload_n G (p9 := 0) d_S_rulerInRow_47 rfl rfl ?_
          refine gfC_S_20 G d_S_rulerInRow_48 ?_
          refine vj_iload_n G (p9 := 2) d_S_rulerInRow_51 rfl rfl ?_
          obtain ⟨c10, hF⟩ := ck_some hF
          refine vj_iald G (x := x2) lkC_50 (by decide) c10 d_S_rulerInRow_52 ?_
          refine vj_mr (fun hM11 => ?_)
          refine vj_iconst G (v := 1) d_S_rulerInRow_53 rfl ?_
          refine vj_isub G d_S_rulerInRow_54 ?_
          obtain ⟨c12, hF⟩ := ck_some hF
          refine vj_iald G (x := w32 ((M 50 x2.toNat) - 1)) lkC_20 (by decide) c12 d_S_rulerInRow_55 ?_
          cases hF
          exact vj_iret G0 (mr_a hM11 lkC_20) d_S_rulerInRow_56
set_option maxHeartbeats 4000000 in
set_option maxRecDepth 100000 in
theorem wl_S_rulerInRow_2 {w : Wd} {X : Cx} {r : Int} {M9 : Mm} (G0 : Gx LC w X "WhoRules$Search" b_S_rulerInRow 3 0 0 (some .int)) (n : Nat) : ∀ (f : Nat) (x1 x2 : Int) (hx1 : inR x1) (hx2 : inR x2) (M : Mm), lp_S_rulerInRow_2 n f x1 x2 M = some (r, M9) → VJ LC w X 3 1 r M9 M [(0, .ref (wa w 4)), (1, .int (i32 x1)), (2, .int (i32 x2))] [] 2 := by
  intro f
  induction f with
  | zero => intro x1 x2 hx1 hx2 M hF; cases hF
  | succ f ih => intro x1 x2 hx1 hx2 M hF; exact wk_S_rulerInRow_2 G0 n (lp_S_rulerInRow_2 n f) ih x1 x2 hx1 hx2 M hF
set_option maxHeartbeats 4000000 in
set_option maxRecDepth 100000 in
theorem ct_S_rulerInRow {w : Wd} (hij : ij LC w) (n : Nat) (x1 : Int) (hx1 : inR x1) {M : Mm} {r : Int} {M9 : Mm} (hF : f_S_rulerInRow n x1 M = some (r, M9)) : Ct LC w y_S_rulerInRow b_S_rulerInRow 3 (some .int) 0 0 1 [.ref (wa w 4), .int (i32 x1)] M r M9 := by
  refine Ct.of hij KstC (by decide +kernel) (Nat.le_of_ble_eq_true rfl) (fun X G0 => ?_)
  have G := G0.1
  show VJ LC w X 3 1 r M9 M [(0, .ref (wa w 4)), (1, .int (i32 x1))] [] 0
  unfold f_S_rulerInRow at hF
  refine vj_iconst G (v := 0) d_S_rulerInRow_0 rfl ?_
  refine vj_istore_n G (lv2 := [(2, .int (i32 0)), (0, .ref (wa w 4)), (1, .int (i32 x1))]) d_S_rulerInRow_1 rfl (by decide) rfl ?_
  refine vj_sub [1, 2, 0] rfl ?_
  exact wl_S_rulerInRow_2 G0 n  n x1 0 hx1 ic_0 _ hF
set_option maxHeartbeats 4000000 in
set_option maxRecDepth 100000 in
theorem wk_S_fitting_79 {w : Wd} {X : Cx} {r : Int} {M9 : Mm} (G0 : Gx LC w X "WhoRules$Search" b_S_fitting 6 4 90 (some .int)) (n : Nat) (k45 : Int → Int → Int → Int → Int → Mm → Rr) (hk45 : ∀ (x1 x2 x3 x4 x5 : Int) (hx1 : inR x1) (hx2 : inR x2) (hx3 : inR x3) (hx4 : inR x4) (hx5 : inR x5) (M : Mm), k45 x1 x2 x3 x4 x5 M = some (r, M9) → VJ LC w X 6 1 r M9 M [(0, .ref (wa w 4)), (1, .int (i32 x1)), (2, .int (i32 x2)), (3, .int (i32 x3)), (4, .int (i32 x4)), (5, .int (i32 x5))] [] 45) (x1 x2 x3 x4 x5 : Int) (hx1 : inR x1) (hx2 : inR x2) (hx3 : inR x3) (hx4 : inR x4) (hx5 : inR x5) (M : Mm) (hF : f_S_fitting_79 n k45 x1 x2 x3 x4 x5 M = some (r, M9)) : VJ LC w X 6 1 r M9 M [(0, .ref (wa w 4)), (1, .int (i32 x1)), (2, .int (i32 x2)), (3, .int (i32 x3)), (4, .int (i32 x4)), (5, .int (i32 x5))] [] 79 := by
  have G := G0.1
  unfold f_S_fitting_79 at hF
  refine vj_iinc G (p9 := 5) (n := 1) (lv2 := [(5, .int (i32 (w32 (x5 + 1)))), (0, .ref (wa w 4)), (1, .int (i32 x1)), (2, .int (i32 x2)), (3, .int (i32 x3)), (4, .int (i32 x4))]) d_S_fitting_79 rfl (by decide) rfl ?_
  refine vj_goto G (tgt := 45) d_S_fitting_82 (by decide) ?_
  refine vj_sub [1, 2, 3, 4, 5, 0] rfl ?_
  exact hk45 x1 x2 x3 x4 (w32 (x5 + 1)) hx1 hx2 hx3 hx4 (ir_w _) _ hF
set_option maxHeartbeats 4000000 in
set_option maxRecDepth 100000 in
theorem wk_S_fitting_45 {w : Wd} {X : Cx} {r : Int} {M9 : Mm} (G0 : Gx LC w X "WhoRules$Search" b_S_fitting 6 4 90 (some .int)) (n : Nat) (k45 : Int → Int → Int → Int → Int → Mm → Rr) (hk45 : ∀ (x1 x2 x3 x4 x5 : Int) (hx1 : inR x1) (hx2 : inR x2) (hx3 : inR x3) (hx4 : inR x4) (hx5 : inR x5) (M : Mm), k45 x1 x2 x3 x4 x5 M = some (r, M9) → VJ LC w X 6 1 r M9 M [(0, .ref (wa w 4)), (1, .int (i32 x1)), (2, .int (i32 x2)), (3, .int (i32 x3)), (4, .int (i32 x4)), (5, .int (i32 x5))] [] 45) (x1 x2 x3 x4 x5 : Int) (hx1 : inR x1) (hx2 : inR x2) (hx3 : inR x3) (hx4 : inR x4) (hx5 : inR x5) (M : Mm) (hF : f_S_fitting_45 n k45 x1 x2 x3 x4 x5 M = some (r, M9)) : VJ LC w X 6 1 r M9 M [(0, .ref (wa w 4)), (1, .int (i32 x1)), (2, .int (i32 x2)), (3, .int (i32 x3)), (4, .int (i32 x4)), (5, .int (i32 x5))] [] 45 := by
  have G := G0.1
  unfold f_S_fitting_45 at hF
  refine vj_iload G (p9 := 5) d_S_fitting_45 rfl ?_
  refine vj_iload_n G (p9 := 3) d_S_fitting_47 rfl rfl ?_
  refine vj_icmp_ge G (tgt := 85) d_S_fitting_48 (by decide) hx5 hx3 (fun c1 => ?_) (fun c1 => ?_)
  · rw [if_pos c1] at hF
    refine vj_iload_n G (p9 := 1) d_S_fitting_85 rfl rfl ?_
    refine vj_iconst G (v := (-1)) d_S_fitting_86 rfl ?_
    refine vj_icmp_ne G (tgt := 95) d_S_fitting_87 (by decide) hx1 ic_m1 (fun c2 => ?_) (fun c2 => ?_)
    · rw [if_pos c2] at hF
      refine vj_iconst G (v := (-1)) d_S_fitting_95 rfl ?_
      cases hF
      exact vj_iret G0 ic_m1 d_S_fitting_96
    · rw [if_neg c2] at hF
      refine vj_iload G (p9 := 4) d_S_fitting_90 rfl ?_
      refine vj_goto G (tgt := 96) d_S_fitting_92 (by decide) ?_
      cases hF
      exact vj_iret G0 hx4 d_S_fitting_96
  · rw [if_neg c1] at hF
    refine vj_aload_n G (p9 := 0) d_S_fitting_51 rfl rfl ?_
    refine vj_iload G (p9 := 5) d_S_fitting_52 rfl ?_
    obtain ⟨r3, M3, e3, hF⟩ := bnd_some hF
    refine vj_callV0 G (ct_S_setRow (gx_ij G) n x5 hx5 e3) lkC_4 clC_10 rfl q_912 cq_S_setRow rfl (by decide) (by decide) (Nat.le_of_ble_eq_true rfl) d_S_fitting_54 rfl (fun hr3 => ?_)
    refine vj_aload_n G (p9 := 0) d_S_fitting_57 rfl rfl ?_
    obtain ⟨r4, M4, e4, hF⟩ := bnd_some hF
    refine vj_callV3 G (ct_S_rowFits (gx_ij G) n   e4) lkC_4 clC_10 rfl q_918 cq_S_rowFits rfl (by decide) (by decide) (Nat.le_of_ble_eq_true rfl) d_S_fitting_58 rfl (fun hr4 => ?_)
    refine vj_if_eq G (tgt := 79) d_S_fitting_61 (by decide) (ir_b hr4) (fun c5 => ?_) (fun c5 => ?_)
    · rw [if_pos c5] at hF
      exact wk_S_fitting_79 G0 n k45 hk45 x1 x2 x3 x4 x5 hx1 hx2 hx3 hx4 hx5 _ hF
    · rw [if_neg c5] at hF
      refine vj_iload G (p9 := 4) d_S_fitting_64 rfl ?_
      refine vj_iload_n G (p9 := 1) d_S_fitting_66 rfl rfl ?_
      refine vj_icmp_ne G (tgt := 76) d_S_fitting_67 (by decide) hx4 hx1 (fun c6 => ?_) (fun c6 => ?_)
      · rw [if_pos c6] at hF
        refine vj_iinc G (p9 := 4) (n := 1) (lv2 := [(4, .int (i32 (w32 (x4 + 1)))), (0, .ref (wa w 4)), (1, .int (i32 x1)), (2, .int (i32 x2)), (3, .int (i32 x3)), (5, .int (i32 x5))]) d_S_fitting_76 rfl (by decide) rfl ?_
        refine vj_sub [1, 2, 3, 4, 0, 5] rfl ?_
        exact wk_S_fitting_79 G0 n k45 hk45 x1 x2 x3 (w32 (x4 + 1)) x5 hx1 hx2 hx3 (ir_w _) hx5 _ hF
      · rw [if_neg c6] at hF
        refine vj_aload_n G (p9 := 0) d_S_fitting_70 rfl rfl ?_
        refine vj_iload_n G (p9 := 2) d_S_fitting_71 rfl rfl ?_
        obtain ⟨r7, M7, e7, hF⟩ := bnd_some hF
        refine vj_callV1 G (ct_S_rulerInRow (gx_ij G) n x2 hx2 e7) lkC_4 clC_10 rfl q_930 cq_S_rulerInRow rfl (by decide) (by decide) (Nat.le_of_ble_eq_true rfl) d_S_fitting_72 rfl (fun hr7 => ?_)
        cases hF
        exact vj_iret G0 hr7 d_S_fitting_75
set_option maxHeartbeats 4000000 in
set_option maxRecDepth 100000 in
theorem wl_S_fitting_45 {w : Wd} {X : Cx} {r : Int} {M9 : Mm} (G0 : Gx LC w X "WhoRules$Search" b_S_fitting 6 4 90 (some .int)) (n : Nat) : ∀ (f : Nat) (x1 x2 x3 x4 x5 : Int) (hx1 : inR x1) (hx2 : inR x2) (hx3 : inR x3) (hx4 : inR x4) (hx5 : inR x5) (M : Mm), lp_S_fitting_45 n f x1 x2 x3 x4 x5 M = some (r, M9) → VJ LC w X 6 1 r M9 M [(0, .ref (wa w 4)), (1, .int (i32 x1)), (2, .int (i32 x2)), (3, .int (i32 x3)), (4, .int (i32 x4)), (5, .int (i32 x5))] [] 45 := by
  intro f
  induction f with
  | zero => intro x1 x2 x3 x4 x5 hx1 hx2 hx3 hx4 hx5 M hF; cases hF
  | succ f ih => intro x1 x2 x3 x4 x5 hx1 hx2 hx3 hx4 hx5 M hF; exact wk_S_fitting_45 G0 n (lp_S_fitting_45 n f) ih x1 x2 x3 x4 x5 hx1 hx2 hx3 hx4 hx5 M hF
set_option maxHeartbeats 4000000 in
set_option maxRecDepth 100000 in
theorem wk_S_fitting_9 {w : Wd} {X : Cx} {r : Int} {M9 : Mm} (G0 : Gx LC w X "WhoRules$Search" b_S_fitting 6 4 90 (some .int)) (n : Nat) (k9 : Int → Int → Int → Int → Mm → Rr) (hk9 : ∀ (x1 x2 x3 x4 : Int) (hx1 : inR x1) (hx2 : inR x2) (hx3 : inR x3) (hx4 : inR x4) (M : Mm), k9 x1 x2 x3 x4 M = some (r, M9) → VJ LC w X 6 1 r M9 M [(0, .ref (wa w 4)), (1, .int (i32 x1)), (2, .int (i32 x2)), (3, .int (i32 x3)), (4, .int (i32 x4))] [] 9) (x1 x2 x3 x4 : Int) (hx1 : inR x1) (hx2 : inR x2) (hx3 : inR x3) (hx4 : inR x4) (M : Mm) (hF : f_S_fitting_9 n k9 x1 x2 x3 x4 M = some (r, M9)) : VJ LC w X 6 1 r M9 M [(0, .ref (wa w 4)), (1, .int (i32 x1)), (2, .int (i32 x2)), (3, .int (i32 x3)), (4, .int (i32 x4))] [] 9 := by
  have G := G0.1
  unfold f_S_fitting_9 at hF
  refine vj_iload G (p9 := 4) d_S_fitting_9 rfl ?_
  refine vj_aload_n G (p9 := 0) d_S_fitting_11 rfl rfl ?_
  refine gfC_S_38 G d_S_fitting_12 ?_
  refine gfC_S_49 G d_S_fitting_15 ?_
  refine vj_mr (fun hM1 => ?_)
  refine vj_icmp_ge G (tgt := 39) d_S_fitting_18 (by decide) hx4 (mr_o hM1 lkC_1 flC_7_2) (fun c2 => ?_) (fun c2 => ?_)
  · rw [if_pos c2] at hF
    refine vj_iconst G (v := 0) d_S_fitting_39 rfl ?_
    refine vj_istore G (lv2 := [(4, .int (i32 0)), (0, .ref (wa w 4)), (1, .int (i32 x1)), (2, .int (i32 x2)), (3, .int (i32 x3))]) d_S_fitting_40 (by decide) rfl ?_
    refine vj_iconst G (v := 0) d_S_fitting_42 rfl ?_
    refine vj_istore G (lv2 := [(5, .int (i32 0)), (4, .int (i32 0)), (0, .ref (wa w 4)), (1, .int (i32 x1)), (2, .int (i32 x2)), (3, .int (i32 x3))]) d_S_fitting_43 (by decide) rfl ?_
    refine vj_sub [2, 3, 4, 5, 1, 0] rfl ?_
    exact wl_S_fitting_45 G0 n  n x1 x2 x3 0 0 hx1 hx2 hx3 ic_0 ic_0 _ hF
  · rw [if_neg c2] at hF
    refine vj_iload_n G (p9 := 3) d_S_fitting_21 rfl rfl ?_
    refine vj_aload_n G (p9 := 0) d_S_fitting_22 rfl rfl ?_
    refine gfC_S_38 G d_S_fitting_23 ?_
    refine gfC_S_55 G d_S_fitting_26 ?_
    refine vj_mr (fun hM3 => ?_)
    refine vj_iconst G (v := 1) d_S_fitting_29 rfl ?_
    refine vj_iadd G d_S_fitting_30 ?_
    refine vj_imul G d_S_fitting_31 ?_
    refine vj_istore_n G (lv2 := [(3, .int (i32 (w32 (x3 * (w32 ((M 1 3) + 1)))))), (0, .ref (wa w 4)), (1, .int (i32 x1)), (2, .int (i32 x2)), (4, .int (i32 x4))]) d_S_fitting_32 rfl (by decide) rfl ?_
    refine vj_iinc G (p9 := 4) (n := 1) (lv2 := [(4, .int (i32 (w32 (x4 + 1)))), (3, .int (i32 (w32 (x3 * (w32 ((M 1 3) + 1)))))), (0, .ref (wa w 4)), (1, .int (i32 x1)), (2, .int (i32 x2))]) d_S_fitting_33 rfl (by decide) rfl ?_
    refine vj_goto G (tgt := 9) d_S_fitting_36 (by decide) ?_
    refine vj_sub [2, 3, 4, 1, 0] rfl ?_
    exact hk9 x1 x2 (w32 (x3 * (w32 ((M 1 3) + 1)))) (w32 (x4 + 1)) hx1 hx2 (ir_w _) (ir_w _) _ hF
set_option maxHeartbeats 4000000 in
set_option maxRecDepth 100000 in
theorem wl_S_fitting_9 {w : Wd} {X : Cx} {r : Int} {M9 : Mm} (G0 : Gx LC w X "WhoRules$Search" b_S_fitting 6 4 90 (some .int)) (n : Nat) : ∀ (f : Nat) (x1 x2 x3 x4 : Int) (hx1 : inR x1) (hx2 : inR x2) (hx3 : inR x3) (hx4 : inR x4) (M : Mm), lp_S_fitting_9 n f x1 x2 x3 x4 M = some (r, M9) → VJ LC w X 6 1 r M9 M [(0, .ref (wa w 4)), (1, .int (i32 x1)), (2, .int (i32 x2)), (3, .int (i32 x3)), (4, .int (i32 x4))] [] 9 := by
  intro f
  induction f with
  | zero => intro x1 x2 x3 x4 hx1 hx2 hx3 hx4 M hF; cases hF
  | succ f ih => intro x1 x2 x3 x4 hx1 hx2 hx3 hx4 M hF; exact wk_S_fitting_9 G0 n (lp_S_fitting_9 n f) ih x1 x2 x3 x4 hx1 hx2 hx3 hx4 M hF
set_option maxHeartbeats 4000000 in
set_option maxRecDepth 100000 in
theorem ct_S_fitting {w : Wd} (hij : ij LC w) (n : Nat) (x1 x2 : Int) (hx1 : inR x1) (hx2 : inR x2) {M : Mm} {r : Int} {M9 : Mm} (hF : f_S_fitting n x1 x2 M = some (r, M9)) : Ct LC w y_S_fitting b_S_fitting 6 (some .int) 4 90 1 [.ref (wa w 4), .int (i32 x1), .int (i32 x2)] M r M9 := by
  refine Ct.of hij KstC (by decide +kernel) (Nat.le_of_ble_eq_true rfl) (fun X G0 => ?_)
  have G := G0.1
  show VJ LC w X 6 1 r M9 M [(0, .ref (wa w 4)), (1, .int (i32 x1)), (2, .int (i32 x2))] [] 0
  unfold f_S_fitting at hF
  refine vj_aload_n G (p9 := 0) d_S_fitting_0 rfl rfl ?_
  obtain ⟨r1, M1, e1, hF⟩ := bnd_some hF
  refine vj_callV0 G (ct_S_listCarrying (gx_ij G) n   e1) lkC_4 clC_10 rfl q_902 cq_S_listCarrying rfl (by decide) (by decide) (Nat.le_of_ble_eq_true rfl) d_S_fitting_1 rfl (fun hr1 => ?_)
  refine vj_iconst G (v := 1) d_S_fitting_4 rfl ?_
  refine vj_istore_n G (lv2 := [(3, .int (i32 1)), (0, .ref (wa w 4)), (1, .int (i32 x1)), (2, .int (i32 x2))]) d_S_fitting_5 rfl (by decide) rfl ?_
  refine vj_iconst G (v := 0) d_S_fitting_6 rfl ?_
  refine vj_istore G (lv2 := [(4, .int (i32 0)), (3, .int (i32 1)), (0, .ref (wa w 4)), (1, .int (i32 x1)), (2, .int (i32 x2))]) d_S_fitting_7 (by decide) rfl ?_
  refine vj_sub [2, 3, 4, 1, 0] rfl ?_
  exact wl_S_fitting_9 G0 n  n x1 x2 1 0 hx1 hx2 ic_1 ic_0 _ hF
set_option maxHeartbeats 4000000 in
set_option maxRecDepth 100000 in
theorem ct_W_all {w : Wd} (hij : ij LC w) (n : Nat) (x1 x2 x3 : Int) (hx1 : inR x1) (hx2 : inR x2) (hx3 : inR x3) {M : Mm} {r : Int} {M9 : Mm} (hF : f_W_all n x1 x2 x3 M = some (r, M9)) : Ct LC w y_W_all b_W_all 4 (some .int) 5 125 1 [.ref (wa w 0), .int (i32 x1), .int (i32 x2), .int (i32 x3)] M r M9 := by
  refine Ct.of hij KstC (by decide +kernel) (Nat.le_of_ble_eq_true rfl) (fun X G0 => ?_)
  have G := G0.1
  show VJ LC w X 4 1 r M9 M [(0, .ref (wa w 0)), (1, .int (i32 x1)), (2, .int (i32 x2)), (3, .int (i32 x3))] [] 0
  unfold f_W_all at hF
  refine vj_iload_n G (p9 := 1) d_W_all_0 rfl rfl ?_
  obtain ⟨r1, M1, e1, hF⟩ := bnd_some hF
  refine vj_callS3 G (ct_W_isDay (gx_ij G) n x1 hx1 e1) q_639 cq_W_isDay rfl (by decide) (by decide) (Nat.le_of_ble_eq_true rfl) d_W_all_1 rfl (fun hr1 => ?_)
  refine vj_if_eq G (tgt := 23) d_W_all_4 (by decide) (ir_b hr1) (fun c2 => ?_) (fun c2 => ?_)
  · rw [if_pos c2] at hF
    refine vj_iconst G (v := (-1)) d_W_all_23 rfl ?_
    cases hF
    exact vj_iret G0 ic_m1 d_W_all_24
  · rw [if_neg c2] at hF
    refine vj_aload_n G (p9 := 0) d_W_all_7 rfl rfl ?_
    refine gfC_W_18 G d_W_all_8 ?_
    refine vj_iload_n G (p9 := 3) d_W_all_11 rfl rfl ?_
    obtain ⟨r3, M3, e3, hF⟩ := bnd_some hF
    refine vj_callV3 G (ct_R_isFirm (gx_ij G) n x3 hx3 e3) lkC_1 clC_7 rfl q_592 cq_R_isFirm rfl (by decide) (by decide) (Nat.le_of_ble_eq_true rfl) d_W_all_12 rfl (fun hr3 => ?_)
    refine vj_if_eq G (tgt := 23) d_W_all_15 (by decide) (ir_b hr3) (fun c4 => ?_) (fun c4 => ?_)
    · rw [if_pos c4] at hF
      refine vj_iconst G (v := (-1)) d_W_all_23 rfl ?_
      cases hF
      exact vj_iret G0 ic_m1 d_W_all_24
    · rw [if_neg c4] at hF
      refine vj_iload_n G (p9 := 2) d_W_all_18 rfl rfl ?_
      refine vj_iconst G (v := (-1)) d_W_all_19 rfl ?_
      refine vj_icmp_ge G (tgt := 25) d_W_all_20 (by decide) hx2 ic_m1 (fun c5 => ?_) (fun c5 => ?_)
      · rw [if_pos c5] at hF
        refine vj_aload_n G (p9 := 0) d_W_all_25 rfl rfl ?_
        refine gfC_W_18 G d_W_all_26 ?_
        refine gfC_W_199 G d_W_all_29 ?_
        refine vj_mr (fun hM6 => ?_)
        refine vj_iconst G (v := 5) d_W_all_32 rfl ?_
        refine vj_icmp_gt G (tgt := 47) d_W_all_33 (by decide) (mr_o hM6 lkC_1 flC_7_2) ic_5 (fun c7 => ?_) (fun c7 => ?_)
        · rw [if_pos c7] at hF
          refine vj_bipush G (v := (-9)) d_W_all_47 rfl ?_
          cases hF
          exact vj_iret G0 ic_m9 d_W_all_49
        · rw [if_neg c7] at hF
          refine vj_aload_n G (p9 := 0) d_W_all_36 rfl rfl ?_
          refine gfC_W_18 G d_W_all_37 ?_
          refine gfC_W_202 G d_W_all_40 ?_
          refine vj_mr (fun hM8 => ?_)
          refine vj_iconst G (v := 4) d_W_all_43 rfl ?_
          refine vj_icmp_le G (tgt := 50) d_W_all_44 (by decide) (mr_o hM8 lkC_1 flC_7_3) ic_4 (fun c9 => ?_) (fun c9 => ?_)
          · rw [if_pos c9] at hF
            refine vj_aload_n G (p9 := 0) d_W_all_50 rfl rfl ?_
            refine gfC_W_34 G d_W_all_51 ?_
            refine vj_iload_n G (p9 := 1) d_W_all_54 rfl rfl ?_
            obtain ⟨r10, M10, e10, hF⟩ := bnd_some hF
            refine vj_callV0 G (ct_U_look (gx_ij G) n x1 hx1 e10) lkC_3 clC_9 rfl q_775 cq_U_look rfl (by decide) (by decide) (Nat.le_of_ble_eq_true rfl) d_W_all_55 rfl (fun hr10 => ?_)
            refine vj_aload_n G (p9 := 0) d_W_all_58 rfl rfl ?_
            refine gfC_W_43 G d_W_all_59 ?_
            refine vj_iload_n G (p9 := 2) d_W_all_62 rfl rfl ?_
            refine vj_iload_n G (p9 := 3) d_W_all_63 rfl rfl ?_
            obtain ⟨r11, M11, e11, hF⟩ := bnd_some hF
            refine vj_callV1 G (ct_S_fitting (gx_ij G) n x2 x3 hx2 hx3 e11) lkC_4 clC_10 rfl q_898 cq_S_fitting rfl (by decide) (by decide) (Nat.le_of_ble_eq_true rfl) d_W_all_64 rfl (fun hr11 => ?_)
            cases hF
            exact vj_iret G0 hr11 d_W_all_67
          · rw [if_neg c9] at hF
            refine vj_bipush G (v := (-9)) d_W_all_47 rfl ?_
            cases hF
            exact vj_iret G0 ic_m9 d_W_all_49
      · rw [if_neg c5] at hF
        refine vj_iconst G (v := (-1)) d_W_all_23 rfl ?_
        cases hF
        exact vj_iret G0 ic_m1 d_W_all_24
set_option maxHeartbeats 4000000 in
set_option maxRecDepth 100000 in
theorem wk_W_isTape_14 {w : Wd} {X : Cx} {r : Int} {M9 : Mm} (G0 : Gx LC w X "WhoRules" b_W_isTape 1 0 0 (some .boolean)) (n : Nat) (M : Mm) (hF : f_W_isTape_14 n  M = some (r, M9)) : VJ LC w X 1 3 r M9 M [] [] 14 := by
  have G := G0.1
  unfold f_W_isTape_14 at hF
  refine vj_iconst G (v := 0) d_W_isTape_14 rfl ?_
  cases hF
  exact vj_zret G0 (Or.inl rfl) d_W_isTape_15
set_option maxHeartbeats 4000000 in
set_option maxRecDepth 100000 in
theorem ct_W_isTape {w : Wd} (hij : ij LC w) (n : Nat) (x0 : Int) (hx0 : inR x0) {M : Mm} {r : Int} {M9 : Mm} (hF : f_W_isTape n x0 M = some (r, M9)) : Ct LC w y_W_isTape b_W_isTape 1 (some .boolean) 0 0 3 [.int (i32 x0)] M r M9 := by
  refine Ct.of hij KstC (by decide +kernel) (Nat.le_of_ble_eq_true rfl) (fun X G0 => ?_)
  have G := G0.1
  show VJ LC w X 1 3 r M9 M [(0, .int (i32 x0))] [] 0
  unfold f_W_isTape at hF
  refine vj_iload_n G (p9 := 0) d_W_isTape_0 rfl rfl ?_
  refine vj_if_lt G (tgt := 14) d_W_isTape_1 (by decide) hx0 (fun c1 => ?_) (fun c1 => ?_)
  · rw [if_pos c1] at hF
    refine vj_sub [] rfl ?_
    exact wk_W_isTape_14 G0 n    _ hF
  · rw [if_neg c1] at hF
    refine vj_iload_n G (p9 := 0) d_W_isTape_4 rfl rfl ?_
    refine vj_bipush G (v := 6) d_W_isTape_5 rfl ?_
    refine vj_icmp_ge G (tgt := 14) d_W_isTape_7 (by decide) hx0 ic_6 (fun c2 => ?_) (fun c2 => ?_)
    · rw [if_pos c2] at hF
      refine vj_sub [] rfl ?_
      exact wk_W_isTape_14 G0 n    _ hF
    · rw [if_neg c2] at hF
      refine vj_iconst G (v := 1) d_W_isTape_10 rfl ?_
      refine vj_goto G (tgt := 15) d_W_isTape_11 (by decide) ?_
      cases hF
      exact vj_zret G0 (Or.inr rfl) d_W_isTape_15
set_option maxHeartbeats 4000000 in
set_option maxRecDepth 100000 in
theorem wk_W_hasPlaces_24 {w : Wd} {X : Cx} {r : Int} {M9 : Mm} (G0 : Gx LC w X "WhoRules" b_W_hasPlaces 4 0 0 (some .boolean)) (n : Nat) (M : Mm) (hF : f_W_hasPlaces_24 n  M = some (r, M9)) : VJ LC w X 4 3 r M9 M [] [] 24 := by
  have G := G0.1
  unfold f_W_hasPlaces_24 at hF
  refine vj_iconst G (v := 0) d_W_hasPlaces_24 rfl ?_
  cases hF
  exact vj_zret G0 (Or.inl rfl) d_W_hasPlaces_25
set_option maxHeartbeats 4000000 in
set_option maxRecDepth 100000 in
theorem ct_W_hasPlaces {w : Wd} (hij : ij LC w) (n : Nat) (x1 x2 x3 : Int) (hx1 : inR x1) (hx2 : inR x2) (hx3 : inR x3) {M : Mm} {r : Int} {M9 : Mm} (hF : f_W_hasPlaces n x1 x2 x3 M = some (r, M9)) : Ct LC w y_W_hasPlaces b_W_hasPlaces 4 (some .boolean) 0 0 3 [.ref (wa w 0), .int (i32 x1), .int (i32 x2), .int (i32 x3)] M r M9 := by
  refine Ct.of hij KstC (by decide +kernel) (Nat.le_of_ble_eq_true rfl) (fun X G0 => ?_)
  have G := G0.1
  show VJ LC w X 4 3 r M9 M [(0, .ref (wa w 0)), (1, .int (i32 x1)), (2, .int (i32 x2)), (3, .int (i32 x3))] [] 0
  unfold f_W_hasPlaces at hF
  refine vj_iload_n G (p9 := 2) d_W_hasPlaces_0 rfl rfl ?_
  refine vj_if_lt G (tgt := 24) d_W_hasPlaces_1 (by decide) hx2 (fun c1 => ?_) (fun c1 => ?_)
  · rw [if_pos c1] at hF
    refine vj_sub [] rfl ?_
    exact wk_W_hasPlaces_24 G0 n    _ hF
  · rw [if_neg c1] at hF
    refine vj_iload_n G (p9 := 3) d_W_hasPlaces_4 rfl rfl ?_
    refine vj_if_lt G (tgt := 24) d_W_hasPlaces_5 (by decide) hx3 (fun c2 => ?_) (fun c2 => ?_)
    · rw [if_pos c2] at hF
      refine vj_sub [] rfl ?_
      exact wk_W_hasPlaces_24 G0 n    _ hF
    · rw [if_neg c2] at hF
      refine vj_iload_n G (p9 := 2) d_W_hasPlaces_8 rfl rfl ?_
      refine vj_aload_n G (p9 := 0) d_W_hasPlaces_9 rfl rfl ?_
      refine gfC_W_65 G d_W_hasPlaces_10 ?_
      refine vj_iload_n G (p9 := 1) d_W_hasPlaces_13 rfl rfl ?_
      obtain ⟨c3, hF⟩ := ck_some hF
      refine vj_iald G (x := x1) lkC_14 (by decide) c3 d_W_hasPlaces_14 ?_
      refine vj_mr (fun hM4 => ?_)
      refine vj_iload_n G (p9 := 3) d_W_hasPlaces_15 rfl rfl ?_
      refine vj_isub G d_W_hasPlaces_16 ?_
      refine vj_icmp_gt G (tgt := 24) d_W_hasPlaces_17 (by decide) hx2 (ir_w _) (fun c5 => ?_) (fun c5 => ?_)
      · rw [if_pos c5] at hF
        refine vj_sub [] rfl ?_
        exact wk_W_hasPlaces_24 G0 n    _ hF
      · rw [if_neg c5] at hF
        refine vj_iconst G (v := 1) d_W_hasPlaces_20 rfl ?_
        refine vj_goto G (tgt := 25) d_W_hasPlaces_21 (by decide) ?_
        cases hF
        exact vj_zret G0 (Or.inr rfl) d_W_hasPlaces_25
set_option maxHeartbeats 4000000 in
set_option maxRecDepth 100000 in
theorem wk_R_isPerson_32 {w : Wd} {X : Cx} {r : Int} {M9 : Mm} (G0 : Gx LC w X "WhoRules$Register" b_R_isPerson 2 1 21 (some .boolean)) (n : Nat) (M : Mm) (hF : f_R_isPerson_32 n  M = some (r, M9)) : VJ LC w X 2 3 r M9 M [] [] 32 := by
  have G := G0.1
  unfold f_R_isPerson_32 at hF
  refine vj_iconst G (v := 0) d_R_isPerson_32 rfl ?_
  cases hF
  exact vj_zret G0 (Or.inl rfl) d_R_isPerson_33
set_option maxHeartbeats 4000000 in
set_option maxRecDepth 100000 in
theorem ct_R_isPerson {w : Wd} (hij : ij LC w) (n : Nat) (x1 : Int) (hx1 : inR x1) {M : Mm} {r : Int} {M9 : Mm} (hF : f_R_isPerson n x1 M = some (r, M9)) : Ct LC w y_R_isPerson b_R_isPerson 2 (some .boolean) 1 21 3 [.ref (wa w 1), .int (i32 x1)] M r M9 := by
  refine Ct.of hij KstC (by decide +kernel) (Nat.le_of_ble_eq_true rfl) (fun X G0 => ?_)
  have G := G0.1
  show VJ LC w X 2 3 r M9 M [(0, .ref (wa w 1)), (1, .int (i32 x1))] [] 0
  unfold f_R_isPerson at hF
  refine vj_aload_n G (p9 := 0) d_R_isPerson_0 rfl rfl ?_
  refine vj_iload_n G (p9 := 1) d_R_isPerson_1 rfl rfl ?_
  obtain ⟨r1, M1, e1, hF⟩ := bnd_some hF
  refine vj_callV3 G (ct_R_isHolder (gx_ij G) n x1 hx1 e1) lkC_1 clC_7 rfl q_584 cq_R_isHolder rfl (by decide) (by decide) (Nat.le_of_ble_eq_true rfl) d_R_isPerson_2 rfl (fun hr1 => ?_)
  refine vj_if_eq G (tgt := 32) d_R_isPerson_5 (by decide) (ir_b hr1) (fun c2 => ?_) (fun c2 => ?_)
  · rw [if_pos c2] at hF
    refine vj_sub [] rfl ?_
    exact wk_R_isPerson_32 G0 n    _ hF
  · rw [if_neg c2] at hF
    refine vj_aload_n G (p9 := 0) d_R_isPerson_8 rfl rfl ?_
    refine gfC_R_17 G d_R_isPerson_9 ?_
    refine vj_iload_n G (p9 := 1) d_R_isPerson_12 rfl rfl ?_
    obtain ⟨c3, hF⟩ := ck_some hF
    refine vj_iald G (x := x1) lkC_17 (by decide) c3 d_R_isPerson_13 ?_
    refine vj_mr (fun hM4 => ?_)
    refine vj_iconst G (v := 2) d_R_isPerson_14 rfl ?_
    refine vj_icmp_eq G (tgt := 28) d_R_isPerson_15 (by decide) (mr_a hM4 lkC_17) ic_2 (fun c5 => ?_) (fun c5 => ?_)
    · rw [if_pos c5] at hF
      refine vj_iconst G (v := 1) d_R_isPerson_28 rfl ?_
      refine vj_goto G (tgt := 33) d_R_isPerson_29 (by decide) ?_
      cases hF
      exact vj_zret G0 (Or.inr rfl) d_R_isPerson_33
    · rw [if_neg c5] at hF
      refine vj_aload_n G (p9 := 0) d_R_isPerson_18 rfl rfl ?_
      refine gfC_R_17 G d_R_isPerson_19 ?_
      refine vj_iload_n G (p9 := 1) d_R_isPerson_22 rfl rfl ?_
      obtain ⟨c6, hF⟩ := ck_some hF
      refine vj_iald G (x := x1) lkC_17 (by decide) c6 d_R_isPerson_23 ?_
      refine vj_mr (fun hM7 => ?_)
      refine vj_iconst G (v := 3) d_R_isPerson_24 rfl ?_
      refine vj_icmp_ne G (tgt := 32) d_R_isPerson_25 (by decide) (mr_a hM7 lkC_17) ic_3 (fun c8 => ?_) (fun c8 => ?_)
      · rw [if_pos c8] at hF
        refine vj_sub [] rfl ?_
        exact wk_R_isPerson_32 G0 n    _ hF
      · rw [if_neg c8] at hF
        refine vj_iconst G (v := 1) d_R_isPerson_28 rfl ?_
        refine vj_goto G (tgt := 33) d_R_isPerson_29 (by decide) ?_
        cases hF
        exact vj_zret G0 (Or.inr rfl) d_R_isPerson_33
set_option maxHeartbeats 4000000 in
set_option maxRecDepth 100000 in
theorem wk_R_isRuler_22 {w : Wd} {X : Cx} {r : Int} {M9 : Mm} (G0 : Gx LC w X "WhoRules$Register" b_R_isRuler 2 2 42 (some .boolean)) (n : Nat) (M : Mm) (hF : f_R_isRuler_22 n  M = some (r, M9)) : VJ LC w X 2 3 r M9 M [] [] 22 := by
  have G := G0.1
  unfold f_R_isRuler_22 at hF
  refine vj_iconst G (v := 0) d_R_isRuler_22 rfl ?_
  cases hF
  exact vj_zret G0 (Or.inl rfl) d_R_isRuler_23
set_option maxHeartbeats 4000000 in
set_option maxRecDepth 100000 in
theorem ct_R_isRuler {w : Wd} (hij : ij LC w) (n : Nat) (x1 : Int) (hx1 : inR x1) {M : Mm} {r : Int} {M9 : Mm} (hF : f_R_isRuler n x1 M = some (r, M9)) : Ct LC w y_R_isRuler b_R_isRuler 2 (some .boolean) 2 42 3 [.ref (wa w 1), .int (i32 x1)] M r M9 := by
  refine Ct.of hij KstC (by decide +kernel) (Nat.le_of_ble_eq_true rfl) (fun X G0 => ?_)
  have G := G0.1
  show VJ LC w X 2 3 r M9 M [(0, .ref (wa w 1)), (1, .int (i32 x1))] [] 0
  unfold f_R_isRuler at hF
  refine vj_aload_n G (p9 := 0) d_R_isRuler_0 rfl rfl ?_
  refine vj_iload_n G (p9 := 1) d_R_isRuler_1 rfl rfl ?_
  obtain ⟨r1, M1, e1, hF⟩ := bnd_some hF
  refine vj_callV3 G (ct_R_isPerson (gx_ij G) n x1 hx1 e1) lkC_1 clC_7 rfl q_580 cq_R_isPerson rfl (by decide) (by decide) (Nat.le_of_ble_eq_true rfl) d_R_isRuler_2 rfl (fun hr1 => ?_)
  refine vj_if_eq G (tgt := 22) d_R_isRuler_5 (by decide) (ir_b hr1) (fun c2 => ?_) (fun c2 => ?_)
  · rw [if_pos c2] at hF
    refine vj_sub [] rfl ?_
    exact wk_R_isRuler_22 G0 n    _ hF
  · rw [if_neg c2] at hF
    refine vj_aload_n G (p9 := 0) d_R_isRuler_8 rfl rfl ?_
    refine gfC_R_21 G d_R_isRuler_9 ?_
    refine vj_iload_n G (p9 := 1) d_R_isRuler_12 rfl rfl ?_
    obtain ⟨c3, hF⟩ := ck_some hF
    refine vj_iald G (x := x1) lkC_18 (by decide) c3 d_R_isRuler_13 ?_
    refine vj_mr (fun hM4 => ?_)
    refine vj_iload_n G (p9 := 1) d_R_isRuler_14 rfl rfl ?_
    refine vj_icmp_ne G (tgt := 22) d_R_isRuler_15 (by decide) (mr_a hM4 lkC_18) hx1 (fun c5 => ?_) (fun c5 => ?_)
    · rw [if_pos c5] at hF
      refine vj_sub [] rfl ?_
      exact wk_R_isRuler_22 G0 n    _ hF
    · rw [if_neg c5] at hF
      refine vj_iconst G (v := 1) d_R_isRuler_18 rfl ?_
      refine vj_goto G (tgt := 23) d_R_isRuler_19 (by decide) ?_
      cases hF
      exact vj_zret G0 (Or.inr rfl) d_R_isRuler_23
set_option maxHeartbeats 4000000 in
set_option maxRecDepth 100000 in
theorem ct_U_tells {w : Wd} (hij : ij LC w) (n : Nat) (x1 x2 : Int) (hx1 : inR x1) (hx2 : inR x2) {M : Mm} {r : Int} {M9 : Mm} (hF : f_U_tells n x1 x2 M = some (r, M9)) : Ct LC w y_U_tells b_U_tells 3 (some .boolean) 3 63 3 [.ref (wa w 3), .int (i32 x1), .int (i32 x2)] M r M9 := by
  refine Ct.of hij KstC (by decide +kernel) (Nat.le_of_ble_eq_true rfl) (fun X G0 => ?_)
  have G := G0.1
  show VJ LC w X 3 3 r M9 M [(0, .ref (wa w 3)), (1, .int (i32 x1)), (2, .int (i32 x2))] [] 0
  unfold f_U_tells at hF
  refine vj_aload_n G (p9 := 0) d_U_tells_0 rfl rfl ?_
  refine gfC_U_46 G d_U_tells_1 ?_
  refine vj_iload_n G (p9 := 1) d_U_tells_4 rfl rfl ?_
  obtain ⟨r1, M1, e1, hF⟩ := bnd_some hF
  refine vj_callV3 G (ct_R_isFirm (gx_ij G) n x1 hx1 e1) lkC_1 clC_7 rfl q_873 cq_R_isFirm rfl (by decide) (by decide) (Nat.le_of_ble_eq_true rfl) d_U_tells_5 rfl (fun hr1 => ?_)
  refine vj_if_eq G (tgt := 22) d_U_tells_8 (by decide) (ir_b hr1) (fun c2 => ?_) (fun c2 => ?_)
  · rw [if_pos c2] at hF
    refine vj_iconst G (v := 0) d_U_tells_22 rfl ?_
    cases hF
    exact vj_zret G0 (Or.inl rfl) d_U_tells_23
  · rw [if_neg c2] at hF
    refine vj_aload_n G (p9 := 0) d_U_tells_11 rfl rfl ?_
    refine gfC_U_46 G d_U_tells_12 ?_
    refine vj_iload_n G (p9 := 2) d_U_tells_15 rfl rfl ?_
    obtain ⟨r3, M3, e3, hF⟩ := bnd_some hF
    refine vj_callV3 G (ct_R_isRuler (gx_ij G) n x2 hx2 e3) lkC_1 clC_7 rfl q_954 cq_R_isRuler rfl (by decide) (by decide) (Nat.le_of_ble_eq_true rfl) d_U_tells_16 rfl (fun hr3 => ?_)
    refine vj_if_ne G (tgt := 24) d_U_tells_19 (by decide) (ir_b hr3) (fun c4 => ?_) (fun c4 => ?_)
    · rw [if_pos c4] at hF
      refine vj_aload_n G (p9 := 0) d_U_tells_24 rfl rfl ?_
      refine gfC_U_37 G d_U_tells_25 ?_
      refine vj_iload_n G (p9 := 1) d_U_tells_28 rfl rfl ?_
      obtain ⟨c5, hF⟩ := ck_some hF
      refine vj_iald G (x := x1) lkC_45 (by decide) c5 d_U_tells_29 ?_
      refine vj_mr (fun hM6 => ?_)
      refine vj_if_ge G (tgt := 42) d_U_tells_30 (by decide) (mr_a hM6 lkC_45) (fun c7 => ?_) (fun c7 => ?_)
      · rw [if_pos c7] at hF
        refine vj_iconst G (v := 0) d_U_tells_42 rfl ?_
        cases hF
        exact vj_zret G0 (Or.inl rfl) d_U_tells_43
      · rw [if_neg c7] at hF
        refine vj_aload_n G (p9 := 0) d_U_tells_33 rfl rfl ?_
        refine vj_iload_n G (p9 := 1) d_U_tells_34 rfl rfl ?_
        refine vj_iload_n G (p9 := 2) d_U_tells_35 rfl rfl ?_
        obtain ⟨r8, M8, e8, hF⟩ := bnd_some hF
        refine vj_callV3 G (ct_U_carriedByGroup (gx_ij G) n x1 x2 hx1 hx2 e8) lkC_3 clC_9 rfl q_882 cq_U_carriedByGroup rfl (by decide) (by decide) (Nat.le_of_ble_eq_true rfl) d_U_tells_36 rfl (fun hr8 => ?_)
        refine vj_if_ne G (tgt := 44) d_U_tells_39 (by decide) (ir_b hr8) (fun c9 => ?_) (fun c9 => ?_)
        · rw [if_pos c9] at hF
          refine vj_aload_n G (p9 := 0) d_U_tells_44 rfl rfl ?_
          refine vj_iload_n G (p9 := 1) d_U_tells_45 rfl rfl ?_
          refine vj_iload_n G (p9 := 2) d_U_tells_46 rfl rfl ?_
          obtain ⟨r10, M10, e10, hF⟩ := bnd_some hF
          refine vj_callV0 G (ct_U_crown (gx_ij G) n x1 x2 hx1 hx2 e10) lkC_3 clC_9 rfl q_886 cq_U_crown rfl (by decide) (by decide) (Nat.le_of_ble_eq_true rfl) d_U_tells_47 rfl (fun hr10 => ?_)
          refine vj_iconst G (v := 1) d_U_tells_50 rfl ?_
          cases hF
          exact vj_zret G0 (Or.inr rfl) d_U_tells_51
        · rw [if_neg c9] at hF
          refine vj_iconst G (v := 0) d_U_tells_42 rfl ?_
          cases hF
          exact vj_zret G0 (Or.inl rfl) d_U_tells_43
    · rw [if_neg c4] at hF
      refine vj_iconst G (v := 0) d_U_tells_22 rfl ?_
      cases hF
      exact vj_zret G0 (Or.inl rfl) d_U_tells_23
set_option maxHeartbeats 4000000 in
set_option maxRecDepth 100000 in
theorem wk_W_goodPairs_34 {w : Wd} {X : Cx} {r : Int} {M9 : Mm} (G0 : Gx LC w X "WhoRules" b_W_goodPairs 7 5 125 (some .int)) (n : Nat) (k34 : Int → Int → Int → Int → Int → Mm → Rr) (hk34 : ∀ (x1 x2 x3 x4 x5 : Int) (hx1 : inR x1) (hx2 : inR x2) (hx3 : inR x3) (hx4 : inR x4) (hx5 : inR x5) (M : Mm), k34 x1 x2 x3 x4 x5 M = some (r, M9) → VJ LC w X 7 1 r M9 M [(0, .ref (wa w 0)), (1, .int (i32 x1)), (2, .int (i32 x2)), (3, .int (i32 x3)), (4, .int (i32 x4)), (5, .int (i32 x5))] [] 34) (x1 x2 x3 x4 x5 : Int) (hx1 : inR x1) (hx2 : inR x2) (hx3 : inR x3) (hx4 : inR x4) (hx5 : inR x5) (M : Mm) (hF : f_W_goodPairs_34 n k34 x1 x2 x3 x4 x5 M = some (r, M9)) : VJ LC w X 7 1 r M9 M [(0, .ref (wa w 0)), (1, .int (i32 x1)), (2, .int (i32 x2)), (3, .int (i32 x3)), (4, .int (i32 x4)), (5, .int (i32 x5))] [] 34 := by
  have G := G0.1
  unfold f_W_goodPairs_34 at hF
  refine vj_iload G (p9 := 5) d_W_goodPairs_34 rfl ?_
  refine vj_iload_n G (p9 := 3) d_W_goodPairs_36 rfl rfl ?_
  refine vj_icmp_ge G (tgt := 106) d_W_goodPairs_37 (by decide) hx5 hx3 (fun c1 => ?_) (fun c1 => ?_)
  · rw [if_pos c1] at hF
    refine vj_iload G (p9 := 4) d_W_goodPairs_106 rfl ?_
    cases hF
    exact vj_iret G0 hx4 d_W_goodPairs_108
  · rw [if_neg c1] at hF
    refine vj_iload_n G (p9 := 2) d_W_goodPairs_40 rfl rfl ?_
    refine vj_iconst G (v := 2) d_W_goodPairs_41 rfl ?_
    refine vj_iload G (p9 := 5) d_W_goodPairs_42 rfl ?_
    refine vj_imul G d_W_goodPairs_44 ?_
    refine vj_iadd G d_W_goodPairs_45 ?_
    refine vj_istore G (lv2 := [(6, .int (i32 (w32 (x2 + (w32 (2 * x5)))))), (0, .ref (wa w 0)), (1, .int (i32 x1)), (2, .int (i32 x2)), (3, .int (i32 x3)), (4, .int (i32 x4)), (5, .int (i32 x5))]) d_W_goodPairs_46 (by decide) rfl ?_
    refine vj_aload_n G (p9 := 1) d_W_goodPairs_48 rfl rfl ?_
    refine vj_iload_n G (p9 := 2) d_W_goodPairs_49 rfl rfl ?_
    refine vj_iload G (p9 := 0) d_W_goodPairs_50 rfl ?_
    refine vj_iconst G (v := 2) d_W_goodPairs_52 rfl ?_
    obtain ⟨r2, M2, e2, hF⟩ := bnd_some hF
    refine vj_callV3 G (ct_W_hasPlaces (gx_ij G) n x1 (w32 (x2 + (w32 (2 * x5)))) 2 hx1 (ir_w _) ic_2 e2) lkC_0 clC_6 rfl q_946 cq_W_hasPlaces rfl (by decide) (by decide) (Nat.le_of_ble_eq_true rfl) d_W_goodPairs_53 rfl (fun hr2 => ?_)
    refine vj_if_ne G (tgt := 62) d_W_goodPairs_56 (by decide) (ir_b hr2) (fun c3 => ?_) (fun c3 => ?_)
    · rw [if_pos c3] at hF
      refine vj_aload_n G (p9 := 1) d_W_goodPairs_62 rfl rfl ?_
      refine gfC_W_34 G d_W_goodPairs_63 ?_
      refine vj_aload_n G (p9 := 1) d_W_goodPairs_66 rfl rfl ?_
      refine gfC_W_70 G d_W_goodPairs_67 ?_
      refine vj_iload_n G (p9 := 2) d_W_goodPairs_70 rfl rfl ?_
      obtain ⟨c4, hF⟩ := ck_some hF
      refine vj_aald6 G (x := x1) lkC_15 (by decide) c4 d_W_goodPairs_71 ?_
      refine vj_iload G (p9 := 0) d_W_goodPairs_72 rfl ?_
      obtain ⟨c5, hF⟩ := ck_some hF
      refine vj_lald G (x := w32 (x2 + (w32 (2 * x5)))) (lkC_r100 c4) (by decide) c5 d_W_goodPairs_74 ?_
      refine vj_mr (fun hM6 => ?_)
      refine vj_l2i G d_W_goodPairs_75 ?_
      refine vj_aload_n G (p9 := 1) d_W_goodPairs_76 rfl rfl ?_
      refine gfC_W_70 G d_W_goodPairs_77 ?_
      refine vj_iload_n G (p9 := 2) d_W_goodPairs_80 rfl rfl ?_
      obtain ⟨c7, hF⟩ := ck_some hF
      refine vj_aald6 G (x := x1) lkC_15 (by decide) c7 d_W_goodPairs_81 ?_
      refine vj_iload G (p9 := 0) d_W_goodPairs_82 rfl ?_
      refine vj_iconst G (v := 1) d_W_goodPairs_84 rfl ?_
      refine vj_iadd G d_W_goodPairs_85 ?_
      obtain ⟨c8, hF⟩ := ck_some hF
      refine vj_lald G (x := w32 ((w32 (x2 + (w32 (2 * x5)))) + 1)) (lkC_r100 c7) (by decide) c8 d_W_goodPairs_86 ?_
      refine vj_l2i G d_W_goodPairs_87 ?_
      obtain ⟨r9, M9, e9, hF⟩ := bnd_some hF
      refine vj_callV3 G (ct_U_tells (gx_ij G) n (w32 (M2 (100 + x1.toNat) (w32 (x2 + (w32 (2 * x5)))).toNat)) (w32 (M2 (100 + x1.toNat) (w32 ((w32 (x2 + (w32 (2 * x5)))) + 1)).toNat)) (ir_w _) (ir_w _) e9) lkC_3 clC_9 rfl q_950 cq_U_tells rfl (by decide) (by decide) (Nat.le_of_ble_eq_true rfl) d_W_goodPairs_88 rfl (fun hr9 => ?_)
      refine vj_if_ne G (tgt := 97) d_W_goodPairs_91 (by decide) (ir_b hr9) (fun c10 => ?_) (fun c10 => ?_)
      · rw [if_pos c10] at hF
        refine vj_iinc G (p9 := 5) (n := 1) (lv2 := [(4, .int (i32 (w32 (x4 + 1)))), (6, .int (i32 (w32 (x2 + (w32 (2 * x5)))))), (0, .ref (wa w 0)), (1, .int (i32 x1)), (2, .int (i32 x2)), (3, .int (i32 x3)), (5, .int (i32 x5))]) d_W_goodPairs_97 rfl (by decide) rfl ?_
        refine vj_iinc G (p9 := 6) (n := 1) (lv2 := [(5, .int (i32 (w32 (x5 + 1)))), (4, .int (i32 (w32 (x4 + 1)))), (6, .int (i32 (w32 (x2 + (w32 (2 * x5)))))), (0, .ref (wa w 0)), (1, .int (i32 x1)), (2, .int (i32 x2)), (3, .int (i32 x3))]) d_W_goodPairs_100 rfl (by decide) rfl ?_
        refine vj_goto G (tgt := 34) d_W_goodPairs_103 (by decide) ?_
        refine vj_sub [3, 4, 5, 6, 1, 0] rfl ?_
        exact hk34 x1 x2 x3 (w32 (x4 + 1)) (w32 (x5 + 1)) hx1 hx2 hx3 (ir_w _) (ir_w _) _ hF
      · rw [if_neg c10] at hF
        refine vj_iload G (p9 := 5) d_W_goodPairs_94 rfl ?_
        cases hF
        exact vj_iret G0 hx4 d_W_goodPairs_96
    · rw [if_neg c3] at hF
      refine vj_iload G (p9 := 5) d_W_goodPairs_59 rfl ?_
      cases hF
      exact vj_iret G0 hx4 d_W_goodPairs_61
set_option maxHeartbeats 4000000 in
set_option maxRecDepth 100000 in
theorem wl_W_goodPairs_34 {w : Wd} {X : Cx} {r : Int} {M9 : Mm} (G0 : Gx LC w X "WhoRules" b_W_goodPairs 7 5 125 (some .int)) (n : Nat) : ∀ (f : Nat) (x1 x2 x3 x4 x5 : Int) (hx1 : inR x1) (hx2 : inR x2) (hx3 : inR x3) (hx4 : inR x4) (hx5 : inR x5) (M : Mm), lp_W_goodPairs_34 n f x1 x2 x3 x4 x5 M = some (r, M9) → VJ LC w X 7 1 r M9 M [(0, .ref (wa w 0)), (1, .int (i32 x1)), (2, .int (i32 x2)), (3, .int (i32 x3)), (4, .int (i32 x4)), (5, .int (i32 x5))] [] 34 := by
  intro f
  induction f with
  | zero => intro x1 x2 x3 x4 x5 hx1 hx2 hx3 hx4 hx5 M hF; cases hF
  | succ f ih => intro x1 x2 x3 x4 x5 hx1 hx2 hx3 hx4 hx5 M hF; exact wk_W_goodPairs_34 G0 n (lp_W_goodPairs_34 n f) ih x1 x2 x3 x4 x5 hx1 hx2 hx3 hx4 hx5 M hF
set_option maxHeartbeats 4000000 in
set_option maxRecDepth 100000 in
theorem ct_W_goodPairs {w : Wd} (hij : ij LC w) (n : Nat) (x1 x2 x3 : Int) (hx1 : inR x1) (hx2 : inR x2) (hx3 : inR x3) {M : Mm} {r : Int} {M9 : Mm} (hF : f_W_goodPairs n x1 x2 x3 M = some (r, M9)) : Ct LC w y_W_goodPairs b_W_goodPairs 7 (some .int) 5 125 1 [.ref (wa w 0), .int (i32 x1), .int (i32 x2), .int (i32 x3)] M r M9 := by
  refine Ct.of hij KstC (by decide +kernel) (Nat.le_of_ble_eq_true rfl) (fun X G0 => ?_)
  have G := G0.1
  show VJ LC w X 7 1 r M9 M [(0, .ref (wa w 0)), (1, .int (i32 x1)), (2, .int (i32 x2)), (3, .int (i32 x3))] [] 0
  unfold f_W_goodPairs at hF
  refine vj_aload_n G (p9 := 0) d_W_goodPairs_0 rfl rfl ?_
  refine gfC_W_34 G d_W_goodPairs_1 ?_
  refine vj_aload_n G (p9 := 0) d_W_goodPairs_4 rfl rfl ?_
  refine gfC_W_18 G d_W_goodPairs_5 ?_
  refine gfC_W_79 G d_W_goodPairs_8 ?_
  refine vj_mr (fun hM1 => ?_)
  obtain ⟨r2, M2, e2, hF⟩ := bnd_some hF
  refine vj_callV0 G (ct_U_look (gx_ij G) n (M 1 0) (mr_o hM1 lkC_1 flC_7_0) e2) lkC_3 clC_9 rfl q_775 cq_U_look rfl (by decide) (by decide) (Nat.le_of_ble_eq_true rfl) d_W_goodPairs_11 rfl (fun hr2 => ?_)
  refine vj_aload_n G (p9 := 0) d_W_goodPairs_14 rfl rfl ?_
  refine gfC_W_34 G d_W_goodPairs_15 ?_
  obtain ⟨r3, M3, e3, hF⟩ := bnd_some hF
  refine vj_callV0 G (ct_U_tally (gx_ij G) n   e3) lkC_3 clC_9 rfl q_836 cq_U_tally rfl (by decide) (by decide) (Nat.le_of_ble_eq_true rfl) d_W_goodPairs_18 rfl (fun hr3 => ?_)
  refine vj_aload_n G (p9 := 0) d_W_goodPairs_21 rfl rfl ?_
  refine gfC_W_34 G d_W_goodPairs_22 ?_
  obtain ⟨r4, M4, e4, hF⟩ := bnd_some hF
  refine vj_callV0 G (ct_U_clear (gx_ij G) n   e4) lkC_3 clC_9 rfl q_945 cq_U_clear rfl (by decide) (by decide) (Nat.le_of_ble_eq_true rfl) d_W_goodPairs_25 rfl (fun hr4 => ?_)
  refine vj_iconst G (v := 0) d_W_goodPairs_28 rfl ?_
  refine vj_istore G (lv2 := [(4, .int (i32 0)), (0, .ref (wa w 0)), (1, .int (i32 x1)), (2, .int (i32 x2)), (3, .int (i32 x3))]) d_W_goodPairs_29 (by decide) rfl ?_
  refine vj_iconst G (v := 0) d_W_goodPairs_31 rfl ?_
  refine vj_istore G (lv2 := [(5, .int (i32 0)), (4, .int (i32 0)), (0, .ref (wa w 0)), (1, .int (i32 x1)), (2, .int (i32 x2)), (3, .int (i32 x3))]) d_W_goodPairs_32 (by decide) rfl ?_
  refine vj_sub [2, 3, 4, 5, 1, 0] rfl ?_
  exact wl_W_goodPairs_34 G0 n  n x1 x2 x3 0 0 hx1 hx2 hx3 ic_0 ic_0 _ hF
set_option maxHeartbeats 4000000 in
set_option maxRecDepth 100000 in
theorem ct_W_proof {w : Wd} (hij : ij LC w) (n : Nat) (x1 x2 x3 : Int) (hx1 : inR x1) (hx2 : inR x2) (hx3 : inR x3) {M : Mm} {r : Int} {M9 : Mm} (hF : f_W_proof n x1 x2 x3 M = some (r, M9)) : Ct LC w y_W_proof b_W_proof 5 (some .int) 6 151 1 [.ref (wa w 0), .int (i32 x1), .int (i32 x2), .int (i32 x3)] M r M9 := by
  refine Ct.of hij KstC (by decide +kernel) (Nat.le_of_ble_eq_true rfl) (fun X G0 => ?_)
  have G := G0.1
  show VJ LC w X 5 1 r M9 M [(0, .ref (wa w 0)), (1, .int (i32 x1)), (2, .int (i32 x2)), (3, .int (i32 x3))] [] 0
  unfold f_W_proof at hF
  refine vj_iload_n G (p9 := 1) d_W_proof_0 rfl rfl ?_
  obtain ⟨r1, M1, e1, hF⟩ := bnd_some hF
  refine vj_callS3 G (ct_W_isTape (gx_ij G) n x1 hx1 e1) q_938 cq_W_isTape rfl (by decide) (by decide) (Nat.le_of_ble_eq_true rfl) d_W_proof_1 rfl (fun hr1 => ?_)
  refine vj_if_ne G (tgt := 9) d_W_proof_4 (by decide) (ir_b hr1) (fun c2 => ?_) (fun c2 => ?_)
  · rw [if_pos c2] at hF
    refine vj_iload_n G (p9 := 3) d_W_proof_9 rfl rfl ?_
    refine vj_iconst G (v := 1) d_W_proof_10 rfl ?_
    refine vj_icmp_lt G (tgt := 20) d_W_proof_11 (by decide) hx3 ic_1 (fun c3 => ?_) (fun c3 => ?_)
    · rw [if_pos c3] at hF
      refine vj_bipush G (v := (-2)) d_W_proof_20 rfl ?_
      cases hF
      exact vj_iret G0 ic_m2 d_W_proof_22
    · rw [if_neg c3] at hF
      refine vj_iload_n G (p9 := 3) d_W_proof_14 rfl rfl ?_
      refine vj_bipush G (v := 7) d_W_proof_15 rfl ?_
      refine vj_icmp_le G (tgt := 23) d_W_proof_17 (by decide) hx3 ic_7 (fun c4 => ?_) (fun c4 => ?_)
      · rw [if_pos c4] at hF
        refine vj_aload_n G (p9 := 0) d_W_proof_23 rfl rfl ?_
        refine gfC_W_62 G d_W_proof_24 ?_
        refine vj_iload_n G (p9 := 1) d_W_proof_27 rfl rfl ?_
        obtain ⟨c5, hF⟩ := ck_some hF
        refine vj_iald G (x := x1) lkC_13 (by decide) c5 d_W_proof_28 ?_
        refine vj_mr (fun hM6 => ?_)
        refine vj_iconst G (v := (-1)) d_W_proof_29 rfl ?_
        refine vj_icmp_ne G (tgt := 36) d_W_proof_30 (by decide) (mr_a hM6 lkC_13) ic_m1 (fun c7 => ?_) (fun c7 => ?_)
        · rw [if_pos c7] at hF
          refine vj_aload_n G (p9 := 0) d_W_proof_36 rfl rfl ?_
          refine gfC_W_62 G d_W_proof_37 ?_
          refine vj_iload_n G (p9 := 1) d_W_proof_40 rfl rfl ?_
          obtain ⟨c8, hF⟩ := ck_some hF
          refine vj_iald G (x := x1) lkC_13 (by decide) c8 d_W_proof_41 ?_
          refine vj_mr (fun hM9 => ?_)
          refine vj_iconst G (v := 1) d_W_proof_42 rfl ?_
          refine vj_icmp_eq G (tgt := 49) d_W_proof_43 (by decide) (mr_a hM9 lkC_13) ic_1 (fun c10 => ?_) (fun c10 => ?_)
          · rw [if_pos c10] at hF
            refine vj_aload_n G (p9 := 0) d_W_proof_49 rfl rfl ?_
            refine vj_iload_n G (p9 := 1) d_W_proof_50 rfl rfl ?_
            refine vj_iload_n G (p9 := 2) d_W_proof_51 rfl rfl ?_
            refine vj_iload_n G (p9 := 3) d_W_proof_52 rfl rfl ?_
            obtain ⟨r11, M11, e11, hF⟩ := bnd_some hF
            refine vj_callV1 G (ct_W_goodPairs (gx_ij G) n x1 x2 x3 hx1 hx2 hx3 e11) lkC_0 clC_6 rfl q_941 cq_W_goodPairs rfl (by decide) (by decide) (Nat.le_of_ble_eq_true rfl) d_W_proof_53 rfl (fun hr11 => ?_)
            refine vj_istore G (lv2 := [(4, .int (i32 r11)), (0, .ref (wa w 0)), (1, .int (i32 x1)), (2, .int (i32 x2)), (3, .int (i32 x3))]) d_W_proof_56 (by decide) rfl ?_
            refine vj_aload_n G (p9 := 1) d_W_proof_58 rfl rfl ?_
            refine vj_iload_n G (p9 := 2) d_W_proof_59 rfl rfl ?_
            refine vj_iload_n G (p9 := 3) d_W_proof_60 rfl rfl ?_
            refine vj_iconst G (v := 2) d_W_proof_61 rfl ?_
            refine vj_iload_n G (p9 := 4) d_W_proof_62 rfl rfl ?_
            refine vj_imul G d_W_proof_63 ?_
            obtain ⟨r12, M12, e12, hF⟩ := bnd_some hF
            refine vj_callV3 G (ct_W_hasPlaces (gx_ij G) n x1 x2 (w32 (2 * x3)) hx1 hx2 (ir_w _) e12) lkC_0 clC_6 rfl q_946 cq_W_hasPlaces rfl (by decide) (by decide) (Nat.le_of_ble_eq_true rfl) d_W_proof_64 rfl (fun hr12 => ?_)
            refine vj_if_eq G (tgt := 75) d_W_proof_67 (by decide) (ir_b hr12) (fun c13 => ?_) (fun c13 => ?_)
            · rw [if_pos c13] at hF
              refine vj_iload G (p9 := 0) d_W_proof_75 rfl ?_
              refine vj_bipush G (v := 100) d_W_proof_77 rfl ?_
              refine vj_iadd G d_W_proof_79 ?_
              cases hF
              exact vj_iret G0 (ir_w _) d_W_proof_80
            · rw [if_neg c13] at hF
              refine vj_iload G (p9 := 0) d_W_proof_70 rfl ?_
              refine vj_goto G (tgt := 80) d_W_proof_72 (by decide) ?_
              cases hF
              exact vj_iret G0 hr11 d_W_proof_80
          · rw [if_neg c10] at hF
            refine vj_bipush G (v := (-12)) d_W_proof_46 rfl ?_
            cases hF
            exact vj_iret G0 ic_m12 d_W_proof_48
        · rw [if_neg c7] at hF
          refine vj_bipush G (v := 100) d_W_proof_33 rfl ?_
          cases hF
          exact vj_iret G0 ic_100 d_W_proof_35
      · rw [if_neg c4] at hF
        refine vj_bipush G (v := (-2)) d_W_proof_20 rfl ?_
        cases hF
        exact vj_iret G0 ic_m2 d_W_proof_22
  · rw [if_neg c2] at hF
    refine vj_iconst G (v := (-1)) d_W_proof_7 rfl ?_
    cases hF
    exact vj_iret G0 ic_m1 d_W_proof_8
set_option maxHeartbeats 4000000 in
set_option maxRecDepth 100000 in
theorem wk_F_load_154 {w : Wd} {X : Cx} {r : Int} {M9 : Mm} (G0 : Gx LC w X "WhoRules$Flow" b_F_load 2 2 45 none) (n : Nat) (k69 : Int → Mm → Rr) (hk69 : ∀ (x1 : Int) (hx1 : inR x1) (M : Mm), k69 x1 M = some (r, M9) → VJ LC w X 2 0 r M9 M [(0, .ref (wa w 5)), (1, .int (i32 x1))] [] 69) (x1 : Int) (hx1 : inR x1) (M : Mm) (hF : f_F_load_154 n k69 x1 M = some (r, M9)) : VJ LC w X 2 0 r M9 M [(0, .ref (wa w 5)), (1, .int (i32 x1))] [] 154 := by
  have G := G0.1
  unfold f_F_load_154 at hF
  refine vj_iinc G (p9 := 1) (n := 1) (lv2 := [(1, .int (i32 (w32 (x1 + 1)))), (0, .ref (wa w 5))]) d_F_load_154 rfl (by decide) rfl ?_
  refine vj_goto G (tgt := 69) d_F_load_157 (by decide) ?_
  refine vj_sub [1, 0] rfl ?_
  exact hk69 (w32 (x1 + 1)) (ir_w _) _ hF
set_option maxHeartbeats 4000000 in
set_option maxRecDepth 100000 in
theorem wk_F_load_69 {w : Wd} {X : Cx} {r : Int} {M9 : Mm} (G0 : Gx LC w X "WhoRules$Flow" b_F_load 2 2 45 none) (n : Nat) (k69 : Int → Mm → Rr) (hk69 : ∀ (x1 : Int) (hx1 : inR x1) (M : Mm), k69 x1 M = some (r, M9) → VJ LC w X 2 0 r M9 M [(0, .ref (wa w 5)), (1, .int (i32 x1))] [] 69) (x1 : Int) (hx1 : inR x1) (M : Mm) (hF : f_F_load_69 n k69 x1 M = some (r, M9)) : VJ LC w X 2 0 r M9 M [(0, .ref (wa w 5)), (1, .int (i32 x1))] [] 69 := by
  have G := G0.1
  unfold f_F_load_69 at hF
  refine vj_iload_n G (p9 := 1) d_F_load_69 rfl rfl ?_
  refine vj_aload_n G (p9 := 0) d_F_load_70 rfl rfl ?_
  refine gfC_F_37 G d_F_load_71 ?_
  refine gfC_F_63 G d_F_load_74 ?_
  refine vj_mr (fun hM1 => ?_)
  refine vj_icmp_ge G (tgt := 160) d_F_load_77 (by decide) hx1 (mr_o hM1 lkC_1 flC_7_4) (fun c2 => ?_) (fun c2 => ?_)
  · rw [if_pos c2] at hF
    cases hF
    exact vj_vret G0 d_F_load_160
  · rw [if_neg c2] at hF
    refine vj_aload_n G (p9 := 0) d_F_load_80 rfl rfl ?_
    refine gfC_F_37 G d_F_load_81 ?_
    refine gfC_F_66 G d_F_load_84 ?_
    refine vj_iload_n G (p9 := 1) d_F_load_87 rfl rfl ?_
    obtain ⟨c3, hF⟩ := ck_some hF
    refine vj_iald G (x := x1) lkC_25 (by decide) c3 d_F_load_88 ?_
    refine vj_mr (fun hM4 => ?_)
    refine vj_if_lt G (tgt := 154) d_F_load_89 (by decide) (mr_a hM4 lkC_25) (fun c5 => ?_) (fun c5 => ?_)
    · rw [if_pos c5] at hF
      exact wk_F_load_154 G0 n k69 hk69 x1 hx1 _ hF
    · rw [if_neg c5] at hF
      refine vj_aload_n G (p9 := 0) d_F_load_92 rfl rfl ?_
      refine gfC_F_11 G d_F_load_93 ?_
      refine vj_aload_n G (p9 := 0) d_F_load_96 rfl rfl ?_
      refine gfC_F_37 G d_F_load_97 ?_
      refine gfC_F_69 G d_F_load_100 ?_
      refine vj_iload_n G (p9 := 1) d_F_load_103 rfl rfl ?_
      obtain ⟨c6, hF⟩ := ck_some hF
      refine vj_iald G (x := x1) lkC_21 (by decide) c6 d_F_load_104 ?_
      refine vj_mr (fun hM7 => ?_)
      obtain ⟨c8, hF⟩ := ck_some hF
      refine vj_aald5 G (x := (M 21 x1.toNat)) lkC_56 (by decide) c8 d_F_load_105 ?_
      refine vj_aload_n G (p9 := 0) d_F_load_106 rfl rfl ?_
      refine gfC_F_37 G d_F_load_107 ?_
      refine gfC_F_66 G d_F_load_110 ?_
      refine vj_iload_n G (p9 := 1) d_F_load_113 rfl rfl ?_
      obtain ⟨c9, hF⟩ := ck_some hF
      refine vj_iald G (x := x1) lkC_25 (by decide) c9 d_F_load_114 ?_
      refine vj_dup2_11 G d_F_load_115 rfl rfl ?_
      obtain ⟨c10, hF⟩ := ck_some hF
      refine vj_iald G (x := (M 25 x1.toNat)) (lkC_r180 c8) (by decide) c10 d_F_load_116 ?_
      refine vj_aload_n G (p9 := 0) d_F_load_117 rfl rfl ?_
      refine gfC_F_37 G d_F_load_118 ?_
      refine gfC_F_72 G d_F_load_121 ?_
      refine vj_iload_n G (p9 := 1) d_F_load_124 rfl rfl ?_
      obtain ⟨c11, hF⟩ := ck_some hF
      refine vj_iald G (x := x1) lkC_22 (by decide) c11 d_F_load_125 ?_
      refine vj_iadd G d_F_load_126 ?_
      obtain ⟨c12, hF⟩ := ck_some hF
      refine vj_iast G (x := (M 25 x1.toNat)) (lkC_r180 c8) (by decide) (k9_180 c8) (kh_180 c8) c12 (ir_w _) d_F_load_127 ?_
      refine vj_aload_n G (p9 := 0) d_F_load_128 rfl rfl ?_
      refine gfC_F_16 G d_F_load_129 ?_
      refine vj_aload_n G (p9 := 0) d_F_load_132 rfl rfl ?_
      refine gfC_F_37 G d_F_load_133 ?_
      refine gfC_F_69 G d_F_load_136 ?_
      refine vj_iload_n G (p9 := 1) d_F_load_139 rfl rfl ?_
      obtain ⟨c13, hF⟩ := ck_some hF
      refine vj_iald G (x := x1) lkC_21 (by decide) c13 d_F_load_140 ?_
      refine vj_mr (fun hM14 => ?_)
      refine vj_dup2_11 G d_F_load_141 rfl rfl ?_
      obtain ⟨c15, hF⟩ := ck_some hF
      refine vj_iald G (x := ((mset M (180 + (M 21 x1.toNat).toNat) (M 25 x1.toNat).toNat (w32 ((M (180 + (M 21 x1.toNat).toNat) (M 25 x1.toNat).toNat) + (M 22 x1.toNat)))) 21 x1.toNat)) lkC_57 (by decide) c15 d_F_load_142 ?_
      refine vj_aload_n G (p9 := 0) d_F_load_143 rfl rfl ?_
      refine gfC_F_37 G d_F_load_144 ?_
      refine gfC_F_72 G d_F_load_147 ?_
      refine vj_iload_n G (p9 := 1) d_F_load_150 rfl rfl ?_
      obtain ⟨c16, hF⟩ := ck_some hF
      refine vj_iald G (x := x1) lkC_22 (by decide) c16 d_F_load_151 ?_
      refine vj_isub G d_F_load_152 ?_
      obtain ⟨c17, hF⟩ := ck_some hF
      refine vj_iast G (x := ((mset M (180 + (M 21 x1.toNat).toNat) (M 25 x1.toNat).toNat (w32 ((M (180 + (M 21 x1.toNat).toNat) (M 25 x1.toNat).toNat) + (M 22 x1.toNat)))) 21 x1.toNat)) lkC_57 (by decide) (by decide) (by decide) c17 (ir_w _) d_F_load_153 ?_
      exact wk_F_load_154 G0 n k69 hk69 x1 hx1 _ hF
set_option maxHeartbeats 4000000 in
set_option maxRecDepth 100000 in
theorem wl_F_load_69 {w : Wd} {X : Cx} {r : Int} {M9 : Mm} (G0 : Gx LC w X "WhoRules$Flow" b_F_load 2 2 45 none) (n : Nat) : ∀ (f : Nat) (x1 : Int) (hx1 : inR x1) (M : Mm), lp_F_load_69 n f x1 M = some (r, M9) → VJ LC w X 2 0 r M9 M [(0, .ref (wa w 5)), (1, .int (i32 x1))] [] 69 := by
  intro f
  induction f with
  | zero => intro x1 hx1 M hF; cases hF
  | succ f ih => intro x1 hx1 M hF; exact wk_F_load_69 G0 n (lp_F_load_69 n f) ih x1 hx1 M hF
set_option maxHeartbeats 4000000 in
set_option maxRecDepth 100000 in
theorem wk_F_load_16 {w : Wd} {X : Cx} {r : Int} {M9 : Mm} (G0 : Gx LC w X "WhoRules$Flow" b_F_load 2 2 45 none) (n : Nat) (k16 : Int → Mm → Rr) (hk16 : ∀ (x1 : Int) (hx1 : inR x1) (M : Mm), k16 x1 M = some (r, M9) → VJ LC w X 2 0 r M9 M [(0, .ref (wa w 5)), (1, .int (i32 x1))] [] 16) (x1 : Int) (hx1 : inR x1) (M : Mm) (hF : f_F_load_16 n k16 x1 M = some (r, M9)) : VJ LC w X 2 0 r M9 M [(0, .ref (wa w 5)), (1, .int (i32 x1))] [] 16 := by
  have G := G0.1
  unfold f_F_load_16 at hF
  refine vj_iload_n G (p9 := 1) d_F_load_16 rfl rfl ?_
  refine vj_aload_n G (p9 := 0) d_F_load_17 rfl rfl ?_
  refine gfC_F_37 G d_F_load_18 ?_
  refine gfC_F_51 G d_F_load_21 ?_
  refine vj_mr (fun hM1 => ?_)
  refine vj_icmp_ge G (tgt := 67) d_F_load_24 (by decide) hx1 (mr_o hM1 lkC_1 flC_7_2) (fun c2 => ?_) (fun c2 => ?_)
  · rw [if_pos c2] at hF
    refine vj_iconst G (v := 0) d_F_load_67 rfl ?_
    refine vj_istore_n G (lv2 := [(1, .int (i32 0)), (0, .ref (wa w 5))]) d_F_load_68 rfl (by decide) rfl ?_
    refine vj_sub [1, 0] rfl ?_
    exact wl_F_load_69 G0 n  n 0 ic_0 _ hF
  · rw [if_neg c2] at hF
    refine vj_aload_n G (p9 := 0) d_F_load_27 rfl rfl ?_
    refine gfC_F_11 G d_F_load_28 ?_
    refine vj_aload_n G (p9 := 0) d_F_load_31 rfl rfl ?_
    refine gfC_F_37 G d_F_load_32 ?_
    refine gfC_F_54 G d_F_load_35 ?_
    refine vj_iload_n G (p9 := 1) d_F_load_38 rfl rfl ?_
    obtain ⟨c3, hF⟩ := ck_some hF
    refine vj_iald G (x := x1) lkC_19 (by decide) c3 d_F_load_39 ?_
    refine vj_mr (fun hM4 => ?_)
    obtain ⟨c5, hF⟩ := ck_some hF
    refine vj_aald5 G (x := (M 19 x1.toNat)) lkC_56 (by decide) c5 d_F_load_40 ?_
    refine vj_iconst G (v := 0) d_F_load_41 rfl ?_
    refine vj_fillI G (lkC_r180 c5) (by decide) (k9_180 c5) (kh_180 c5) q_969 ic_0 (by decide) (by decide) (by decide) d_F_load_42 ?_
    refine vj_aload_n G (p9 := 0) d_F_load_45 rfl rfl ?_
    refine gfC_F_16 G d_F_load_46 ?_
    refine vj_aload_n G (p9 := 0) d_F_load_49 rfl rfl ?_
    refine gfC_F_37 G d_F_load_50 ?_
    refine gfC_F_54 G d_F_load_53 ?_
    refine vj_iload_n G (p9 := 1) d_F_load_56 rfl rfl ?_
    obtain ⟨c6, hF⟩ := ck_some hF
    refine vj_iald G (x := x1) lkC_19 (by decide) c6 d_F_load_57 ?_
    refine vj_mr (fun hM7 => ?_)
    refine vj_bipush G (v := 12) d_F_load_58 rfl ?_
    obtain ⟨c8, hF⟩ := ck_some hF
    refine vj_iast G (x := ((mfil M (180 + (M 19 x1.toNat).toNat) 16 0) 19 x1.toNat)) lkC_57 (by decide) (by decide) (by decide) c8 ic_12 d_F_load_60 ?_
    refine vj_iinc G (p9 := 1) (n := 1) (lv2 := [(1, .int (i32 (w32 (x1 + 1)))), (0, .ref (wa w 5))]) d_F_load_61 rfl (by decide) rfl ?_
    refine vj_goto G (tgt := 16) d_F_load_64 (by decide) ?_
    refine vj_sub [1, 0] rfl ?_
    exact hk16 (w32 (x1 + 1)) (ir_w _) _ hF
set_option maxHeartbeats 4000000 in
set_option maxRecDepth 100000 in
theorem wl_F_load_16 {w : Wd} {X : Cx} {r : Int} {M9 : Mm} (G0 : Gx LC w X "WhoRules$Flow" b_F_load 2 2 45 none) (n : Nat) : ∀ (f : Nat) (x1 : Int) (hx1 : inR x1) (M : Mm), lp_F_load_16 n f x1 M = some (r, M9) → VJ LC w X 2 0 r M9 M [(0, .ref (wa w 5)), (1, .int (i32 x1))] [] 16 := by
  intro f
  induction f with
  | zero => intro x1 hx1 M hF; cases hF
  | succ f ih => intro x1 hx1 M hF; exact wk_F_load_16 G0 n (lp_F_load_16 n f) ih x1 hx1 M hF
set_option maxHeartbeats 4000000 in
set_option maxRecDepth 100000 in
theorem ct_F_load {w : Wd} (hij : ij LC w) (n : Nat) {M : Mm} {r : Int} {M9 : Mm} (hF : f_F_load n  M = some (r, M9)) : Ct LC w y_F_load b_F_load 2 none 2 45 0 [.ref (wa w 5)] M r M9 := by
  refine Ct.of hij KstC (by decide +kernel) (Nat.le_of_ble_eq_true rfl) (fun X G0 => ?_)
  have G := G0.1
  show VJ LC w X 2 0 r M9 M [(0, .ref (wa w 5))] [] 0
  unfold f_F_load at hF
  refine vj_aload_n G (p9 := 0) d_F_load_0 rfl rfl ?_
  refine gfC_F_37 G d_F_load_1 ?_
  refine vj_aload_n G (p9 := 0) d_F_load_4 rfl rfl ?_
  refine gfC_F_37 G d_F_load_5 ?_
  refine gfC_F_41 G d_F_load_8 ?_
  refine vj_mr (fun hM1 => ?_)
  obtain ⟨r2, M2, e2, hF⟩ := bnd_some hF
  refine vj_callV0 G (ct_R_lookAt (gx_ij G) n (M 1 0) (mr_o hM1 lkC_1 flC_7_0) e2) lkC_1 clC_7 rfl q_968 cq_R_lookAt rfl (by decide) (by decide) (Nat.le_of_ble_eq_true rfl) d_F_load_11 rfl (fun hr2 => ?_)
  refine vj_iconst G (v := 0) d_F_load_14 rfl ?_
  refine vj_istore_n G (lv2 := [(1, .int (i32 0)), (0, .ref (wa w 5))]) d_F_load_15 rfl (by decide) rfl ?_
  refine vj_sub [1, 0] rfl ?_
  exact wl_F_load_16 G0 n  n 0 ic_0 _ hF
set_option maxHeartbeats 4000000 in
set_option maxRecDepth 100000 in
theorem wk_F_givesOut_46 {w : Wd} {X : Cx} {r : Int} {M9 : Mm} (G0 : Gx LC w X "WhoRules$Flow" b_F_givesOut 4 2 42 (some .boolean)) (n : Nat) (k2 : Int → Int → Int → Mm → Rr) (hk2 : ∀ (x1 x2 x3 : Int) (hx1 : inR x1) (hx2 : inR x2) (hx3 : inR x3) (M : Mm), k2 x1 x2 x3 M = some (r, M9) → VJ LC w X 4 3 r M9 M [(0, .ref (wa w 5)), (1, .int (i32 x1)), (2, .int (i32 x2)), (3, .int (i32 x3))] [] 2) (x1 x2 x3 : Int) (hx1 : inR x1) (hx2 : inR x2) (hx3 : inR x3) (M : Mm) (hF : f_F_givesOut_46 n k2 x1 x2 x3 M = some (r, M9)) : VJ LC w X 4 3 r M9 M [(0, .ref (wa w 5)), (1, .int (i32 x1)), (2, .int (i32 x2)), (3, .int (i32 x3))] [] 46 := by
  have G := G0.1
  unfold f_F_givesOut_46 at hF
  refine vj_iinc G (p9 := 3) (n := 1) (lv2 := [(3, .int (i32 (w32 (x3 + 1)))), (0, .ref (wa w 5)), (1, .int (i32 x1)), (2, .int (i32 x2))]) d_F_givesOut_46 rfl (by decide) rfl ?_
  refine vj_goto G (tgt := 2) d_F_givesOut_49 (by decide) ?_
  refine vj_sub [1, 2, 3, 0] rfl ?_
  exact hk2 x1 x2 (w32 (x3 + 1)) hx1 hx2 (ir_w _) _ hF
set_option maxHeartbeats 4000000 in
set_option maxRecDepth 100000 in
theorem wk_F_givesOut_2 {w : Wd} {X : Cx} {r : Int} {M9 : Mm} (G0 : Gx LC w X "WhoRules$Flow" b_F_givesOut 4 2 42 (some .boolean)) (n : Nat) (k2 : Int → Int → Int → Mm → Rr) (hk2 : ∀ (x1 x2 x3 : Int) (hx1 : inR x1) (hx2 : inR x2) (hx3 : inR x3) (M : Mm), k2 x1 x2 x3 M = some (r, M9) → VJ LC w X 4 3 r M9 M [(0, .ref (wa w 5)), (1, .int (i32 x1)), (2, .int (i32 x2)), (3, .int (i32 x3))] [] 2) (x1 x2 x3 : Int) (hx1 : inR x1) (hx2 : inR x2) (hx3 : inR x3) (M : Mm) (hF : f_F_givesOut_2 n k2 x1 x2 x3 M = some (r, M9)) : VJ LC w X 4 3 r M9 M [(0, .ref (wa w 5)), (1, .int (i32 x1)), (2, .int (i32 x2)), (3, .int (i32 x3))] [] 2 := by
  have G := G0.1
  unfold f_F_givesOut_2 at hF
  refine vj_iload_n G (p9 := 3) d_F_givesOut_2 rfl rfl ?_
  refine vj_aload_n G (p9 := 0) d_F_givesOut_3 rfl rfl ?_
  refine gfC_F_37 G d_F_givesOut_4 ?_
  refine gfC_F_85 G d_F_givesOut_7 ?_
  refine vj_mr (fun hM1 => ?_)
  refine vj_icmp_ge G (tgt := 52) d_F_givesOut_10 (by decide) hx3 (mr_o hM1 lkC_1 flC_7_1) (fun c2 => ?_) (fun c2 => ?_)
  · rw [if_pos c2] at hF
    refine vj_iconst G (v := 0) d_F_givesOut_52 rfl ?_
    cases hF
    exact vj_zret G0 (Or.inl rfl) d_F_givesOut_53
  · rw [if_neg c2] at hF
    refine vj_aload_n G (p9 := 0) d_F_givesOut_13 rfl rfl ?_
    refine gfC_F_11 G d_F_givesOut_14 ?_
    refine vj_iload_n G (p9 := 1) d_F_givesOut_17 rfl rfl ?_
    obtain ⟨c3, hF⟩ := ck_some hF
    refine vj_aald5 G (x := x1) lkC_56 (by decide) c3 d_F_givesOut_18 ?_
    refine vj_iload_n G (p9 := 3) d_F_givesOut_19 rfl rfl ?_
    obtain ⟨c4, hF⟩ := ck_some hF
    refine vj_iald G (x := x3) (lkC_r180 c3) (by decide) c4 d_F_givesOut_20 ?_
    refine vj_mr (fun hM5 => ?_)
    refine vj_if_le G (tgt := 46) d_F_givesOut_21 (by decide) (mr_a hM5 (lkC_r180 c3)) (fun c6 => ?_) (fun c6 => ?_)
    · rw [if_pos c6] at hF
      exact wk_F_givesOut_46 G0 n k2 hk2 x1 x2 x3 hx1 hx2 hx3 _ hF
    · rw [if_neg c6] at hF
      refine vj_aload_n G (p9 := 0) d_F_givesOut_24 rfl rfl ?_
      refine gfC_F_37 G d_F_givesOut_25 ?_
      refine vj_iload_n G (p9 := 3) d_F_givesOut_28 rfl rfl ?_
      obtain ⟨r7, M7, e7, hF⟩ := bnd_some hF
      refine vj_callV3 G (ct_R_isFirm (gx_ij G) n x3 hx3 e7) lkC_1 clC_7 rfl q_978 cq_R_isFirm rfl (by decide) (by decide) (Nat.le_of_ble_eq_true rfl) d_F_givesOut_29 rfl (fun hr7 => ?_)
      refine vj_if_eq G (tgt := 44) d_F_givesOut_32 (by decide) (ir_b hr7) (fun c8 => ?_) (fun c8 => ?_)
      · rw [if_pos c8] at hF
        refine vj_iconst G (v := 1) d_F_givesOut_44 rfl ?_
        cases hF
        exact vj_zret G0 (Or.inr rfl) d_F_givesOut_45
      · rw [if_neg c8] at hF
        refine vj_iload_n G (p9 := 2) d_F_givesOut_35 rfl rfl ?_
        refine vj_iload_n G (p9 := 3) d_F_givesOut_36 rfl rfl ?_
        refine vj_ishr G d_F_givesOut_37 ?_
        refine vj_iconst G (v := 1) d_F_givesOut_38 rfl ?_
        refine vj_iand G d_F_givesOut_39 ?_
        refine vj_iconst G (v := 1) d_F_givesOut_40 rfl ?_
        refine vj_icmp_ne G (tgt := 46) d_F_givesOut_41 (by decide) (ir_an _ _) ic_1 (fun c9 => ?_) (fun c9 => ?_)
        · rw [if_pos c9] at hF
          exact wk_F_givesOut_46 G0 n k2 hk2 x1 x2 x3 hx1 hx2 hx3 _ hF
        · rw [if_neg c9] at hF
          refine vj_iconst G (v := 1) d_F_givesOut_44 rfl ?_
          cases hF
          exact vj_zret G0 (Or.inr rfl) d_F_givesOut_45
set_option maxHeartbeats 4000000 in
set_option maxRecDepth 100000 in
theorem wl_F_givesOut_2 {w : Wd} {X : Cx} {r : Int} {M9 : Mm} (G0 : Gx LC w X "WhoRules$Flow" b_F_givesOut 4 2 42 (some .boolean)) (n : Nat) : ∀ (f : Nat) (x1 x2 x3 : Int) (hx1 : inR x1) (hx2 : inR x2) (hx3 : inR x3) (M : Mm), lp_F_givesOut_2 n f x1 x2 x3 M = some (r, M9) → VJ LC w X 4 3 r M9 M [(0, .ref (wa w 5)), (1, .int (i32 x1)), (2, .int (i32 x2)), (3, .int (i32 x3))] [] 2 := by
  intro f
  induction f with
  | zero => intro x1 x2 x3 hx1 hx2 hx3 M hF; cases hF
  | succ f ih => intro x1 x2 x3 hx1 hx2 hx3 M hF; exact wk_F_givesOut_2 G0 n (lp_F_givesOut_2 n f) ih x1 x2 x3 hx1 hx2 hx3 M hF
set_option maxHeartbeats 4000000 in
set_option maxRecDepth 100000 in
theorem ct_F_givesOut {w : Wd} (hij : ij LC w) (n : Nat) (x1 x2 : Int) (hx1 : inR x1) (hx2 : inR x2) {M : Mm} {r : Int} {M9 : Mm} (hF : f_F_givesOut n x1 x2 M = some (r, M9)) : Ct LC w y_F_givesOut b_F_givesOut 4 (some .boolean) 2 42 3 [.ref (wa w 5), .int (i32 x1), .int (i32 x2)] M r M9 := by
  refine Ct.of hij KstC (by decide +kernel) (Nat.le_of_ble_eq_true rfl) (fun X G0 => ?_)
  have G := G0.1
  show VJ LC w X 4 3 r M9 M [(0, .ref (wa w 5)), (1, .int (i32 x1)), (2, .int (i32 x2))] [] 0
  unfold f_F_givesOut at hF
  refine vj_iconst G (v := 0) d_F_givesOut_0 rfl ?_
  refine vj_istore_n G (lv2 := [(3, .int (i32 0)), (0, .ref (wa w 5)), (1, .int (i32 x1)), (2, .int (i32 x2))]) d_F_givesOut_1 rfl (by decide) rfl ?_
  refine vj_sub [1, 2, 3, 0] rfl ?_
  exact wl_F_givesOut_2 G0 n  n x1 x2 0 hx1 hx2 ic_0 _ hF
set_option maxHeartbeats 4000000 in
set_option maxRecDepth 100000 in
theorem wk_F_openFirms_63 {w : Wd} {X : Cx} {r : Int} {M9 : Mm} (G0 : Gx LC w X "WhoRules$Flow" b_F_openFirms 5 3 65 (some .int)) (n : Nat) (k4 : Int → Int → Mm → Rr) (hk4 : ∀ (x1 x2 : Int) (hx1 : inR x1) (hx2 : inR x2) (M : Mm), k4 x1 x2 M = some (r, M9) → VJ LC w X 5 1 r M9 M [(0, .ref (wa w 5)), (1, .int (i32 x1)), (2, .int (i32 x2))] [] 4) (k12 : Int → Int → Int → Mm → Rr) (hk12 : ∀ (x1 x2 x3 : Int) (hx1 : inR x1) (hx2 : inR x2) (hx3 : inR x3) (M : Mm), k12 x1 x2 x3 M = some (r, M9) → VJ LC w X 5 1 r M9 M [(0, .ref (wa w 5)), (1, .int (i32 x1)), (2, .int (i32 x2)), (3, .int (i32 x3))] [] 12) (x2 x3 s0 s1 : Int) (hx2 : inR x2) (hx3 : inR x3) (hs0 : inR s0) (hs1 : inR s1) (M : Mm) (hF : f_F_openFirms_63 n k4 k12 x2 x3 s0 s1 M = some (r, M9)) : VJ LC w X 5 1 r M9 M [(0, .ref (wa w 5)), (2, .int (i32 x2)), (3, .int (i32 x3))] [.int (i32 s1), .int (i32 s0)] 63 := by
  have G := G0.1
  unfold f_F_openFirms_63 at hF
  refine vj_ior G d_F_openFirms_63 ?_
  refine vj_istore_n G (lv2 := [(1, .int (i32 (ior s0 s1))), (0, .ref (wa w 5)), (2, .int (i32 x2)), (3, .int (i32 x3))]) d_F_openFirms_64 rfl (by decide) rfl ?_
  refine vj_iinc G (p9 := 3) (n := 1) (lv2 := [(3, .int (i32 (w32 (x3 + 1)))), (1, .int (i32 (ior s0 s1))), (0, .ref (wa w 5)), (2, .int (i32 x2))]) d_F_openFirms_65 rfl (by decide) rfl ?_
  refine vj_goto G (tgt := 12) d_F_openFirms_68 (by decide) ?_
  refine vj_sub [2, 1, 3, 0] rfl ?_
  exact hk12 (ior s0 s1) x2 (w32 (x3 + 1)) (ir_or _ _) hx2 (ir_w _) _ hF
set_option maxHeartbeats 4000000 in
set_option maxRecDepth 100000 in
theorem wk_F_openFirms_55 {w : Wd} {X : Cx} {r : Int} {M9 : Mm} (G0 : Gx LC w X "WhoRules$Flow" b_F_openFirms 5 3 65 (some .int)) (n : Nat) (k4 : Int → Int → Mm → Rr) (hk4 : ∀ (x1 x2 : Int) (hx1 : inR x1) (hx2 : inR x2) (M : Mm), k4 x1 x2 M = some (r, M9) → VJ LC w X 5 1 r M9 M [(0, .ref (wa w 5)), (1, .int (i32 x1)), (2, .int (i32 x2))] [] 4) (k12 : Int → Int → Int → Mm → Rr) (hk12 : ∀ (x1 x2 x3 : Int) (hx1 : inR x1) (hx2 : inR x2) (hx3 : inR x3) (M : Mm), k12 x1 x2 x3 M = some (r, M9) → VJ LC w X 5 1 r M9 M [(0, .ref (wa w 5)), (1, .int (i32 x1)), (2, .int (i32 x2)), (3, .int (i32 x3))] [] 12) (x2 x3 x4 s0 : Int) (hx2 : inR x2) (hx3 : inR x3) (hx4 : inR x4) (hs0 : inR s0) (M : Mm) (hF : f_F_openFirms_55 n k4 k12 x2 x3 x4 s0 M = some (r, M9)) : VJ LC w X 5 1 r M9 M [(0, .ref (wa w 5)), (2, .int (i32 x2)), (3, .int (i32 x3)), (4, .int (i32 x4))] [.int (i32 s0)] 55 := by
  have G := G0.1
  unfold f_F_openFirms_55 at hF
  refine vj_iconst G (v := 1) d_F_openFirms_55 rfl ?_
  refine vj_iload G (p9 := 3) d_F_openFirms_56 rfl ?_
  refine vj_ishl G d_F_openFirms_58 ?_
  refine vj_goto G (tgt := 63) d_F_openFirms_59 (by decide) ?_
  refine vj_sub [0, 1, 2] rfl ?_
  exact wk_F_openFirms_63 G0 n k4 hk4 k12 hk12 x2 x3 s0 (ish 1 x4) hx2 hx3 hs0 (ir_sh _ _) _ hF
set_option maxHeartbeats 4000000 in
set_option maxRecDepth 100000 in
theorem wk_F_openFirms_12 {w : Wd} {X : Cx} {r : Int} {M9 : Mm} (G0 : Gx LC w X "WhoRules$Flow" b_F_openFirms 5 3 65 (some .int)) (n : Nat) (k4 : Int → Int → Mm → Rr) (hk4 : ∀ (x1 x2 : Int) (hx1 : inR x1) (hx2 : inR x2) (M : Mm), k4 x1 x2 M = some (r, M9) → VJ LC w X 5 1 r M9 M [(0, .ref (wa w 5)), (1, .int (i32 x1)), (2, .int (i32 x2))] [] 4) (k12 : Int → Int → Int → Mm → Rr) (hk12 : ∀ (x1 x2 x3 : Int) (hx1 : inR x1) (hx2 : inR x2) (hx3 : inR x3) (M : Mm), k12 x1 x2 x3 M = some (r, M9) → VJ LC w X 5 1 r M9 M [(0, .ref (wa w 5)), (1, .int (i32 x1)), (2, .int (i32 x2)), (3, .int (i32 x3))] [] 12) (x1 x2 x3 : Int) (hx1 : inR x1) (hx2 : inR x2) (hx3 : inR x3) (M : Mm) (hF : f_F_openFirms_12 n k4 k12 x1 x2 x3 M = some (r, M9)) : VJ LC w X 5 1 r M9 M [(0, .ref (wa w 5)), (1, .int (i32 x1)), (2, .int (i32 x2)), (3, .int (i32 x3))] [] 12 := by
  have G := G0.1
  unfold f_F_openFirms_12 at hF
  refine vj_iload_n G (p9 := 3) d_F_openFirms_12 rfl rfl ?_
  refine vj_aload_n G (p9 := 0) d_F_openFirms_13 rfl rfl ?_
  refine gfC_F_37 G d_F_openFirms_14 ?_
  refine gfC_F_51 G d_F_openFirms_17 ?_
  refine vj_mr (fun hM1 => ?_)
  refine vj_icmp_ge G (tgt := 71) d_F_openFirms_20 (by decide) hx3 (mr_o hM1 lkC_1 flC_7_2) (fun c2 => ?_) (fun c2 => ?_)
  · rw [if_pos c2] at hF
    refine vj_iinc G (p9 := 2) (n := 1) (lv2 := [(2, .int (i32 (w32 (x2 + 1)))), (0, .ref (wa w 5)), (1, .int (i32 x1)), (3, .int (i32 x3))]) d_F_openFirms_71 rfl (by decide) rfl ?_
    refine vj_goto G (tgt := 4) d_F_openFirms_74 (by decide) ?_
    refine vj_sub [1, 2, 0] rfl ?_
    exact hk4 x1 (w32 (x2 + 1)) hx1 (ir_w _) _ hF
  · rw [if_neg c2] at hF
    refine vj_aload_n G (p9 := 0) d_F_openFirms_23 rfl rfl ?_
    refine gfC_F_37 G d_F_openFirms_24 ?_
    refine gfC_F_54 G d_F_openFirms_27 ?_
    refine vj_iload_n G (p9 := 3) d_F_openFirms_30 rfl rfl ?_
    obtain ⟨c3, hF⟩ := ck_some hF
    refine vj_iald G (x := x3) lkC_19 (by decide) c3 d_F_openFirms_31 ?_
    refine vj_mr (fun hM4 => ?_)
    refine vj_istore G (lv2 := [(4, .int (i32 (M 19 x3.toNat))), (0, .ref (wa w 5)), (1, .int (i32 x1)), (2, .int (i32 x2)), (3, .int (i32 x3))]) d_F_openFirms_32 (by decide) rfl ?_
    refine vj_iload_n G (p9 := 2) d_F_openFirms_34 rfl rfl ?_
    refine vj_aload_n G (p9 := 1) d_F_openFirms_35 rfl rfl ?_
    refine gfC_F_16 G d_F_openFirms_36 ?_
    refine vj_iload G (p9 := 0) d_F_openFirms_39 rfl ?_
    obtain ⟨c5, hF⟩ := ck_some hF
    refine vj_iald G (x := (M 19 x3.toNat)) lkC_57 (by decide) c5 d_F_openFirms_41 ?_
    refine vj_if_gt G (tgt := 55) d_F_openFirms_42 (by decide) (mr_a hM4 lkC_57) (fun c6 => ?_) (fun c6 => ?_)
    · rw [if_pos c6] at hF
      refine vj_sub [1, 3, 4, 0] rfl ?_
      exact wk_F_openFirms_55 G0 n k4 hk4 k12 hk12 x2 x3 (M 19 x3.toNat) x1 hx2 hx3 (mr_a hM4 lkC_19) hx1 _ hF
    · rw [if_neg c6] at hF
      refine vj_aload_n G (p9 := 1) d_F_openFirms_45 rfl rfl ?_
      refine vj_iload G (p9 := 0) d_F_openFirms_46 rfl ?_
      refine vj_iload_n G (p9 := 2) d_F_openFirms_48 rfl rfl ?_
      obtain ⟨r7, M7, e7, hF⟩ := bnd_some hF
      refine vj_callV3 G (ct_F_givesOut (gx_ij G) n (M 19 x3.toNat) x1 (mr_a hM4 lkC_19) hx1 e7) lkC_5 clC_11 rfl q_974 cq_F_givesOut rfl (by decide) (by decide) (Nat.le_of_ble_eq_true rfl) d_F_openFirms_49 rfl (fun hr7 => ?_)
      refine vj_if_eq G (tgt := 62) d_F_openFirms_52 (by decide) (ir_b hr7) (fun c8 => ?_) (fun c8 => ?_)
      · rw [if_pos c8] at hF
        refine vj_iconst G (v := 0) d_F_openFirms_62 rfl ?_
        refine vj_sub [1, 3, 4] rfl ?_
        exact wk_F_openFirms_63 G0 n k4 hk4 k12 hk12 x2 x3 x1 0 hx2 hx3 hx1 ic_0 _ hF
      · rw [if_neg c8] at hF
        refine vj_sub [1, 3, 4, 0] rfl ?_
        exact wk_F_openFirms_55 G0 n k4 hk4 k12 hk12 x2 x3 (M 19 x3.toNat) x1 hx2 hx3 (mr_a hM4 lkC_19) hx1 _ hF
set_option maxHeartbeats 4000000 in
set_option maxRecDepth 100000 in
theorem wl_F_openFirms_12 {w : Wd} {X : Cx} {r : Int} {M9 : Mm} (G0 : Gx LC w X "WhoRules$Flow" b_F_openFirms 5 3 65 (some .int)) (n : Nat) (k4 : Int → Int → Mm → Rr) (hk4 : ∀ (x1 x2 : Int) (hx1 : inR x1) (hx2 : inR x2) (M : Mm), k4 x1 x2 M = some (r, M9) → VJ LC w X 5 1 r M9 M [(0, .ref (wa w 5)), (1, .int (i32 x1)), (2, .int (i32 x2))] [] 4) : ∀ (f : Nat) (x1 x2 x3 : Int) (hx1 : inR x1) (hx2 : inR x2) (hx3 : inR x3) (M : Mm), lp_F_openFirms_12 n k4 f x1 x2 x3 M = some (r, M9) → VJ LC w X 5 1 r M9 M [(0, .ref (wa w 5)), (1, .int (i32 x1)), (2, .int (i32 x2)), (3, .int (i32 x3))] [] 12 := by
  intro f
  induction f with
  | zero => intro x1 x2 x3 hx1 hx2 hx3 M hF; cases hF
  | succ f ih => intro x1 x2 x3 hx1 hx2 hx3 M hF; exact wk_F_openFirms_12 G0 n k4 hk4 (lp_F_openFirms_12 n k4 f) ih x1 x2 x3 hx1 hx2 hx3 M hF
set_option maxHeartbeats 4000000 in
set_option maxRecDepth 100000 in
theorem wk_F_openFirms_4 {w : Wd} {X : Cx} {r : Int} {M9 : Mm} (G0 : Gx LC w X "WhoRules$Flow" b_F_openFirms 5 3 65 (some .int)) (n : Nat) (k4 : Int → Int → Mm → Rr) (hk4 : ∀ (x1 x2 : Int) (hx1 : inR x1) (hx2 : inR x2) (M : Mm), k4 x1 x2 M = some (r, M9) → VJ LC w X 5 1 r M9 M [(0, .ref (wa w 5)), (1, .int (i32 x1)), (2, .int (i32 x2))] [] 4) (x1 x2 : Int) (hx1 : inR x1) (hx2 : inR x2) (M : Mm) (hF : f_F_openFirms_4 n k4 x1 x2 M = some (r, M9)) : VJ LC w X 5 1 r M9 M [(0, .ref (wa w 5)), (1, .int (i32 x1)), (2, .int (i32 x2))] [] 4 := by
  have G := G0.1
  unfold f_F_openFirms_4 at hF
  refine vj_iload_n G (p9 := 2) d_F_openFirms_4 rfl rfl ?_
  refine vj_bipush G (v := 7) d_F_openFirms_5 rfl ?_
  refine vj_icmp_ge G (tgt := 77) d_F_openFirms_7 (by decide) hx2 ic_7 (fun c1 => ?_) (fun c1 => ?_)
  · rw [if_pos c1] at hF
    refine vj_iload_n G (p9 := 1) d_F_openFirms_77 rfl rfl ?_
    cases hF
    exact vj_iret G0 hx1 d_F_openFirms_78
  · rw [if_neg c1] at hF
    refine vj_iconst G (v := 0) d_F_openFirms_10 rfl ?_
    refine vj_istore_n G (lv2 := [(3, .int (i32 0)), (0, .ref (wa w 5)), (1, .int (i32 x1)), (2, .int (i32 x2))]) d_F_openFirms_11 rfl (by decide) rfl ?_
    refine vj_sub [1, 2, 3, 0] rfl ?_
    exact wl_F_openFirms_12 G0 n k4 hk4 n x1 x2 0 hx1 hx2 ic_0 _ hF
set_option maxHeartbeats 4000000 in
set_option maxRecDepth 100000 in
theorem wl_F_openFirms_4 {w : Wd} {X : Cx} {r : Int} {M9 : Mm} (G0 : Gx LC w X "WhoRules$Flow" b_F_openFirms 5 3 65 (some .int)) (n : Nat) : ∀ (f : Nat) (x1 x2 : Int) (hx1 : inR x1) (hx2 : inR x2) (M : Mm), lp_F_openFirms_4 n f x1 x2 M = some (r, M9) → VJ LC w X 5 1 r M9 M [(0, .ref (wa w 5)), (1, .int (i32 x1)), (2, .int (i32 x2))] [] 4 := by
  intro f
  induction f with
  | zero => intro x1 x2 hx1 hx2 M hF; cases hF
  | succ f ih => intro x1 x2 hx1 hx2 M hF; exact wk_F_openFirms_4 G0 n (lp_F_openFirms_4 n f) ih x1 x2 hx1 hx2 M hF
set_option maxHeartbeats 4000000 in
set_option maxRecDepth 100000 in
theorem ct_F_openFirms {w : Wd} (hij : ij LC w) (n : Nat) {M : Mm} {r : Int} {M9 : Mm} (hF : f_F_openFirms n  M = some (r, M9)) : Ct LC w y_F_openFirms b_F_openFirms 5 (some .int) 3 65 1 [.ref (wa w 5)] M r M9 := by
  refine Ct.of hij KstC (by decide +kernel) (Nat.le_of_ble_eq_true rfl) (fun X G0 => ?_)
  have G := G0.1
  show VJ LC w X 5 1 r M9 M [(0, .ref (wa w 5))] [] 0
  unfold f_F_openFirms at hF
  refine vj_iconst G (v := 0) d_F_openFirms_0 rfl ?_
  refine vj_istore_n G (lv2 := [(1, .int (i32 0)), (0, .ref (wa w 5))]) d_F_openFirms_1 rfl (by decide) rfl ?_
  refine vj_iconst G (v := 0) d_F_openFirms_2 rfl ?_
  refine vj_istore_n G (lv2 := [(2, .int (i32 0)), (1, .int (i32 0)), (0, .ref (wa w 5))]) d_F_openFirms_3 rfl (by decide) rfl ?_
  refine vj_sub [2, 1, 0] rfl ?_
  exact wl_F_openFirms_4 G0 n  n 0 0 ic_0 ic_0 _ hF
set_option maxHeartbeats 4000000 in
set_option maxRecDepth 100000 in
theorem wk_F_putInOrder_56 {w : Wd} {X : Cx} {r : Int} {M9 : Mm} (G0 : Gx LC w X "WhoRules$Flow" b_F_putInOrder 6 0 0 (some .int)) (n : Nat) (k5 : Int → Int → Int → Int → Mm → Rr) (hk5 : ∀ (x1 x2 x3 x4 : Int) (hx1 : inR x1) (hx2 : inR x2) (hx3 : inR x3) (hx4 : inR x4) (M : Mm), k5 x1 x2 x3 x4 M = some (r, M9) → VJ LC w X 6 1 r M9 M [(0, .ref (wa w 5)), (1, .int (i32 x1)), (2, .int (i32 x2)), (3, .int (i32 x3)), (4, .int (i32 x4))] [] 5) (x1 x2 x3 x4 : Int) (hx1 : inR x1) (hx2 : inR x2) (hx3 : inR x3) (hx4 : inR x4) (M : Mm) (hF : f_F_putInOrder_56 n k5 x1 x2 x3 x4 M = some (r, M9)) : VJ LC w X 6 1 r M9 M [(0, .ref (wa w 5)), (1, .int (i32 x1)), (2, .int (i32 x2)), (3, .int (i32 x3)), (4, .int (i32 x4))] [] 56 := by
  have G := G0.1
  unfold f_F_putInOrder_56 at hF
  refine vj_iinc G (p9 := 4) (n := 1) (lv2 := [(4, .int (i32 (w32 (x4 + 1)))), (0, .ref (wa w 5)), (1, .int (i32 x1)), (2, .int (i32 x2)), (3, .int (i32 x3))]) d_F_putInOrder_56 rfl (by decide) rfl ?_
  refine vj_goto G (tgt := 5) d_F_putInOrder_59 (by decide) ?_
  refine vj_sub [1, 2, 3, 4, 0] rfl ?_
  exact hk5 x1 x2 x3 (w32 (x4 + 1)) hx1 hx2 hx3 (ir_w _) _ hF
set_option maxHeartbeats 4000000 in
set_option maxRecDepth 100000 in
theorem wk_F_putInOrder_5 {w : Wd} {X : Cx} {r : Int} {M9 : Mm} (G0 : Gx LC w X "WhoRules$Flow" b_F_putInOrder 6 0 0 (some .int)) (n : Nat) (k5 : Int → Int → Int → Int → Mm → Rr) (hk5 : ∀ (x1 x2 x3 x4 : Int) (hx1 : inR x1) (hx2 : inR x2) (hx3 : inR x3) (hx4 : inR x4) (M : Mm), k5 x1 x2 x3 x4 M = some (r, M9) → VJ LC w X 6 1 r M9 M [(0, .ref (wa w 5)), (1, .int (i32 x1)), (2, .int (i32 x2)), (3, .int (i32 x3)), (4, .int (i32 x4))] [] 5) (x1 x2 x3 x4 : Int) (hx1 : inR x1) (hx2 : inR x2) (hx3 : inR x3) (hx4 : inR x4) (M : Mm) (hF : f_F_putInOrder_5 n k5 x1 x2 x3 x4 M = some (r, M9)) : VJ LC w X 6 1 r M9 M [(0, .ref (wa w 5)), (1, .int (i32 x1)), (2, .int (i32 x2)), (3, .int (i32 x3)), (4, .int (i32 x4))] [] 5 := by
  have G := G0.1
  unfold f_F_putInOrder_5 at hF
  refine vj_iload G (p9 := 4) d_F_putInOrder_5 rfl ?_
  refine vj_aload_n G (p9 := 0) d_F_putInOrder_7 rfl rfl ?_
  refine gfC_F_37 G d_F_putInOrder_8 ?_
  refine gfC_F_51 G d_F_putInOrder_11 ?_
  refine vj_mr (fun hM1 => ?_)
  refine vj_icmp_ge G (tgt := 62) d_F_putInOrder_14 (by decide) hx4 (mr_o hM1 lkC_1 flC_7_2) (fun c2 => ?_) (fun c2 => ?_)
  · rw [if_pos c2] at hF
    refine vj_aload_n G (p9 := 0) d_F_putInOrder_62 rfl rfl ?_
    refine gfC_F_29 G d_F_putInOrder_63 ?_
    refine vj_iload_n G (p9 := 3) d_F_putInOrder_66 rfl rfl ?_
    refine vj_iload_n G (p9 := 2) d_F_putInOrder_67 rfl rfl ?_
    obtain ⟨c3, hF⟩ := ck_some hF
    refine vj_iast G (x := x3) lkC_61 (by decide) (by decide) (by decide) c3 hx2 d_F_putInOrder_68 ?_
    refine vj_iload_n G (p9 := 3) d_F_putInOrder_69 rfl rfl ?_
    refine vj_iconst G (v := 1) d_F_putInOrder_70 rfl ?_
    refine vj_iadd G d_F_putInOrder_71 ?_
    cases hF
    exact vj_iret G0 (ir_w _) d_F_putInOrder_72
  · rw [if_neg c2] at hF
    refine vj_aload_n G (p9 := 0) d_F_putInOrder_17 rfl rfl ?_
    refine gfC_F_37 G d_F_putInOrder_18 ?_
    refine gfC_F_54 G d_F_putInOrder_21 ?_
    refine vj_iload G (p9 := 4) d_F_putInOrder_24 rfl ?_
    obtain ⟨c4, hF⟩ := ck_some hF
    refine vj_iald G (x := x4) lkC_19 (by decide) c4 d_F_putInOrder_26 ?_
    refine vj_mr (fun hM5 => ?_)
    refine vj_istore G (lv2 := [(5, .int (i32 (M 19 x4.toNat))), (0, .ref (wa w 5)), (1, .int (i32 x1)), (2, .int (i32 x2)), (3, .int (i32 x3)), (4, .int (i32 x4))]) d_F_putInOrder_27 (by decide) rfl ?_
    refine vj_iload G (p9 := 0) d_F_putInOrder_29 rfl ?_
    refine vj_iload_n G (p9 := 3) d_F_putInOrder_31 rfl rfl ?_
    refine vj_icmp_eq G (tgt := 56) d_F_putInOrder_32 (by decide) (mr_a hM5 lkC_19) hx2 (fun c6 => ?_) (fun c6 => ?_)
    · rw [if_pos c6] at hF
      refine vj_sub [1, 2, 3, 4, 5] rfl ?_
      exact wk_F_putInOrder_56 G0 n k5 hk5 x1 x2 x3 x4 hx1 hx2 hx3 hx4 _ hF
    · rw [if_neg c6] at hF
      refine vj_iload_n G (p9 := 2) d_F_putInOrder_35 rfl rfl ?_
      refine vj_iload G (p9 := 0) d_F_putInOrder_36 rfl ?_
      refine vj_ishr G d_F_putInOrder_38 ?_
      refine vj_iconst G (v := 1) d_F_putInOrder_39 rfl ?_
      refine vj_iand G d_F_putInOrder_40 ?_
      refine vj_iconst G (v := 1) d_F_putInOrder_41 rfl ?_
      refine vj_icmp_ne G (tgt := 56) d_F_putInOrder_42 (by decide) (ir_an _ _) ic_1 (fun c7 => ?_) (fun c7 => ?_)
      · rw [if_pos c7] at hF
        refine vj_sub [1, 2, 3, 4, 5] rfl ?_
        exact wk_F_putInOrder_56 G0 n k5 hk5 x1 x2 x3 x4 hx1 hx2 hx3 hx4 _ hF
      · rw [if_neg c7] at hF
        refine vj_aload_n G (p9 := 1) d_F_putInOrder_45 rfl rfl ?_
        refine gfC_F_29 G d_F_putInOrder_46 ?_
        refine vj_iload_n G (p9 := 4) d_F_putInOrder_49 rfl rfl ?_
        refine vj_iload G (p9 := 0) d_F_putInOrder_50 rfl ?_
        obtain ⟨c8, hF⟩ := ck_some hF
        refine vj_iast G (x := x3) lkC_61 (by decide) (by decide) (by decide) c8 (mr_a hM5 lkC_19) d_F_putInOrder_52 ?_
        refine vj_iinc G (p9 := 4) (n := 1) (lv2 := [(3, .int (i32 (w32 (x3 + 1)))), (5, .int (i32 (M 19 x4.toNat))), (0, .ref (wa w 5)), (1, .int (i32 x1)), (2, .int (i32 x2)), (4, .int (i32 x4))]) d_F_putInOrder_53 rfl (by decide) rfl ?_
        refine vj_sub [2, 3, 4, 0, 5] rfl ?_
        exact wk_F_putInOrder_56 G0 n k5 hk5 x1 x2 (w32 (x3 + 1)) x4 hx1 hx2 (ir_w _) hx4 _ hF
