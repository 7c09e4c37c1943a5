/-! Written by wip/whole/gen. Walks. -/
set_option maxHeartbeats 4000000 in
set_option maxRecDepth 100000 in
theorem wk_W_found_83 {w : Wd} {X : Cx} {r : Int} {M9 : Mm} (G0 : Gx LC w X "WhoRules" b_W_found 6 4 94 (some .int)) (n : Nat) (k21 : Int → Int → Int → Int → Mm → Rr) (hk21 : ∀ (x1 x2 x3 x4 : Int) (hx1 : inR x1) (hx2 : inR x2) (hx3 : inR x3) (hx4 : inR x4) (M : Mm), k21 x1 x2 x3 x4 M = some (r, M9) → VJ LC w X 6 1 r M9 M [(0, .ref (wa w 0)), (1, .int (i32 x1)), (2, .int (i32 x2)), (3, .int (i32 x3)), (4, .int (i32 x4))] [] 21) (x1 x3 x4 s0 s1 : Int) (hx1 : inR x1) (hx3 : inR x3) (hx4 : inR x4) (hs0 : inR s0) (hs1 : inB s1) (M : Mm) (hF : f_W_found_83 n k21 x1 x3 x4 s0 s1 M = some (r, M9)) : VJ LC w X 6 1 r M9 M [(0, .ref (wa w 0)), (1, .int (i32 x1)), (3, .int (i32 x3)), (4, .int (i32 x4))] [.int (i32 s1), .int (i32 s0)] 83 := by
  have G := G0.1
  unfold f_W_found_83 at hF
  refine vj_iadd G d_W_found_83 ?_
  refine vj_istore_n G (lv2 := [(2, .int (i32 (w32 (s0 + s1)))), (0, .ref (wa w 0)), (1, .int (i32 x1)), (3, .int (i32 x3)), (4, .int (i32 x4))]) d_W_found_84 rfl (by decide) rfl ?_
  refine vj_sub [1, 2, 0, 3, 4] rfl ?_
  exact wk_W_found_85 G0 n k21 hk21 x1 (w32 (s0 + s1)) x3 x4 hx1 (ir_w _) hx3 hx4 _ hF
set_option maxHeartbeats 4000000 in
set_option maxRecDepth 100000 in
theorem wk_W_found_21 {w : Wd} {X : Cx} {r : Int} {M9 : Mm} (G0 : Gx LC w X "WhoRules" b_W_found 6 4 94 (some .int)) (n : Nat) (k21 : Int → Int → Int → Int → Mm → Rr) (hk21 : ∀ (x1 x2 x3 x4 : Int) (hx1 : inR x1) (hx2 : inR x2) (hx3 : inR x3) (hx4 : inR x4) (M : Mm), k21 x1 x2 x3 x4 M = some (r, M9) → VJ LC w X 6 1 r M9 M [(0, .ref (wa w 0)), (1, .int (i32 x1)), (2, .int (i32 x2)), (3, .int (i32 x3)), (4, .int (i32 x4))] [] 21) (x1 x2 x3 x4 : Int) (hx1 : inR x1) (hx2 : inR x2) (hx3 : inR x3) (hx4 : inR x4) (M : Mm) (hF : f_W_found_21 n k21 x1 x2 x3 x4 M = some (r, M9)) : VJ LC w X 6 1 r M9 M [(0, .ref (wa w 0)), (1, .int (i32 x1)), (2, .int (i32 x2)), (3, .int (i32 x3)), (4, .int (i32 x4))] [] 21 := by
  have G := G0.1
  unfold f_W_found_21 at hF
  refine vj_iload G (p9 := 4) d_W_found_21 rfl ?_
  refine vj_aload_n G (p9 := 0) d_W_found_23 rfl rfl ?_
  refine gfC_W_18 G d_W_found_24 ?_
  refine gfC_W_267 G d_W_found_27 ?_
  refine vj_mr (fun hM1 => ?_)
  refine vj_icmp_ge G (tgt := 91) d_W_found_30 (by decide) hx4 (mr_o hM1 lkC_1 flC_7_1) (fun c2 => ?_) (fun c2 => ?_)
  · rw [if_pos c2] at hF
    refine vj_iload_n G (p9 := 2) d_W_found_91 rfl rfl ?_
    cases hF
    exact vj_iret G0 hx2 d_W_found_92
  · rw [if_neg c2] at hF
    refine vj_aload_n G (p9 := 0) d_W_found_33 rfl rfl ?_
    refine gfC_W_18 G d_W_found_34 ?_
    refine vj_iload G (p9 := 4) d_W_found_37 rfl ?_
    obtain ⟨r3, M3, e3, hF⟩ := bnd_some hF
    refine vj_callV3 G (ct_R_isPerson (gx_ij G) n x4 hx4 e3) lkC_1 clC_7 rfl q_1118 cq_R_isPerson rfl (by decide) (by decide) (Nat.le_of_ble_eq_true rfl) d_W_found_39 rfl (fun hr3 => ?_)
    refine vj_if_eq G (tgt := 85) d_W_found_42 (by decide) (ir_b hr3) (fun c4 => ?_) (fun c4 => ?_)
    · rw [if_pos c4] at hF
      exact wk_W_found_85 G0 n k21 hk21 x1 x2 x3 x4 hx1 hx2 hx3 hx4 _ hF
    · rw [if_neg c4] at hF
      refine vj_iload_n G (p9 := 3) d_W_found_45 rfl rfl ?_
      refine vj_iload G (p9 := 4) d_W_found_46 rfl ?_
      refine vj_ishr G d_W_found_48 ?_
      refine vj_iconst G (v := 1) d_W_found_49 rfl ?_
      refine vj_iand G d_W_found_50 ?_
      refine vj_if_ne G (tgt := 85) d_W_found_51 (by decide) (ir_an _ _) (fun c5 => ?_) (fun c5 => ?_)
      · rw [if_pos c5] at hF
        exact wk_W_found_85 G0 n k21 hk21 x1 x2 x3 x4 hx1 hx2 hx3 hx4 _ hF
      · rw [if_neg c5] at hF
        refine vj_aload_n G (p9 := 0) d_W_found_54 rfl rfl ?_
        refine vj_iload G (p9 := 4) d_W_found_55 rfl ?_
        refine vj_iload_n G (p9 := 1) d_W_found_57 rfl rfl ?_
        obtain ⟨r6, M6, e6, hF⟩ := bnd_some hF
        refine vj_callV1 G (ct_W_asOneWith (gx_ij G) n x4 x1 hx4 hx1 e6) lkC_0 clC_6 rfl q_1119 cq_W_asOneWith rfl (by decide) (by decide) (Nat.le_of_ble_eq_true rfl) d_W_found_58 rfl (fun hr6 => ?_)
        refine vj_istore G (lv2 := [(5, .int (i32 r6)), (0, .ref (wa w 0)), (1, .int (i32 x1)), (2, .int (i32 x2)), (3, .int (i32 x3)), (4, .int (i32 x4))]) d_W_found_61 (by decide) rfl ?_
        refine vj_iload_n G (p9 := 4) d_W_found_63 rfl rfl ?_
        refine vj_iload G (p9 := 0) d_W_found_64 rfl ?_
        refine vj_ior G d_W_found_66 ?_
        refine vj_istore_n G (lv2 := [(3, .int (i32 (ior x3 r6))), (5, .int (i32 r6)), (0, .ref (wa w 0)), (1, .int (i32 x1)), (2, .int (i32 x2)), (4, .int (i32 x4))]) d_W_found_67 rfl (by decide) rfl ?_
        refine vj_iload_n G (p9 := 4) d_W_found_68 rfl rfl ?_
        refine vj_iload G (p9 := 1) d_W_found_69 rfl ?_
        obtain ⟨r7, M7, e7, hF⟩ := bnd_some hF
        refine vj_callS1 G (ct_JI_bitCount (gx_ij G) n r6 hr6 e7) q_1127 cq_JI_bitCount rfl (by decide) (by decide) (Nat.le_of_ble_eq_true rfl) d_W_found_71 rfl (fun hr7 => ?_)
        refine vj_iconst G (v := 1) d_W_found_74 rfl ?_
        refine vj_icmp_le G (tgt := 82) d_W_found_75 (by decide) hr7 ic_1 (fun c8 => ?_) (fun c8 => ?_)
        · rw [if_pos c8] at hF
          refine vj_iconst G (v := 0) d_W_found_82 rfl ?_
          refine vj_sub [2, 3, 0, 5] rfl ?_
          exact wk_W_found_83 G0 n k21 hk21 x1 (ior x3 r6) x4 x2 0 hx1 (ir_or _ _) hx4 hx2 (Or.inl rfl) _ hF
        · rw [if_neg c8] at hF
          refine vj_iconst G (v := 1) d_W_found_78 rfl ?_
          refine vj_goto G (tgt := 83) d_W_found_79 (by decide) ?_
          refine vj_sub [2, 3, 0, 5] rfl ?_
          exact wk_W_found_83 G0 n k21 hk21 x1 (ior x3 r6) x4 x2 1 hx1 (ir_or _ _) hx4 hx2 (Or.inr rfl) _ hF
set_option maxHeartbeats 4000000 in
set_option maxRecDepth 100000 in
theorem wl_W_found_21 {w : Wd} {X : Cx} {r : Int} {M9 : Mm} (G0 : Gx LC w X "WhoRules" b_W_found 6 4 94 (some .int)) (n : Nat) : ∀ (f : Nat) (x1 x2 x3 x4 : Int) (hx1 : inR x1) (hx2 : inR x2) (hx3 : inR x3) (hx4 : inR x4) (M : Mm), lp_W_found_21 n f x1 x2 x3 x4 M = some (r, M9) → VJ LC w X 6 1 r M9 M [(0, .ref (wa w 0)), (1, .int (i32 x1)), (2, .int (i32 x2)), (3, .int (i32 x3)), (4, .int (i32 x4))] [] 21 := by
  intro f
  induction f with
  | zero => intro x1 x2 x3 x4 hx1 hx2 hx3 hx4 M hF; cases hF
  | succ f ih => intro x1 x2 x3 x4 hx1 hx2 hx3 hx4 M hF; exact wk_W_found_21 G0 n (lp_W_found_21 n f) ih x1 x2 x3 x4 hx1 hx2 hx3 hx4 M hF
set_option maxHeartbeats 4000000 in
set_option maxRecDepth 100000 in
theorem ct_W_found {w : Wd} (hij : ij LC w) (n : Nat) (x1 : Int) (hx1 : inR x1) {M : Mm} {r : Int} {M9 : Mm} (hF : f_W_found n x1 M = some (r, M9)) : Ct LC w y_W_found b_W_found 6 (some .int) 4 94 1 [.ref (wa w 0), .int (i32 x1)] M r M9 := by
  refine Ct.of hij KstC (by decide +kernel) (Nat.le_of_ble_eq_true rfl) (fun X G0 => ?_)
  have G := G0.1
  show VJ LC w X 6 1 r M9 M [(0, .ref (wa w 0)), (1, .int (i32 x1))] [] 0
  unfold f_W_found at hF
  refine vj_iload_n G (p9 := 1) d_W_found_0 rfl rfl ?_
  refine vj_iconst G (v := 1) d_W_found_1 rfl ?_
  refine vj_icmp_lt G (tgt := 11) d_W_found_2 (by decide) hx1 ic_1 (fun c1 => ?_) (fun c1 => ?_)
  · rw [if_pos c1] at hF
    refine vj_bipush G (v := (-2)) d_W_found_11 rfl ?_
    cases hF
    exact vj_iret G0 ic_m2 d_W_found_13
  · rw [if_neg c1] at hF
    refine vj_iload_n G (p9 := 1) d_W_found_5 rfl rfl ?_
    refine vj_bipush G (v := 30) d_W_found_6 rfl ?_
    refine vj_icmp_le G (tgt := 14) d_W_found_8 (by decide) hx1 ic_30 (fun c2 => ?_) (fun c2 => ?_)
    · rw [if_pos c2] at hF
      refine vj_iconst G (v := 0) d_W_found_14 rfl ?_
      refine vj_istore_n G (lv2 := [(2, .int (i32 0)), (0, .ref (wa w 0)), (1, .int (i32 x1))]) d_W_found_15 rfl (by decide) rfl ?_
      refine vj_iconst G (v := 0) d_W_found_16 rfl ?_
      refine vj_istore_n G (lv2 := [(3, .int (i32 0)), (2, .int (i32 0)), (0, .ref (wa w 0)), (1, .int (i32 x1))]) d_W_found_17 rfl (by decide) rfl ?_
      refine vj_iconst G (v := 0) d_W_found_18 rfl ?_
      refine vj_istore G (lv2 := [(4, .int (i32 0)), (3, .int (i32 0)), (2, .int (i32 0)), (0, .ref (wa w 0)), (1, .int (i32 x1))]) d_W_found_19 (by decide) rfl ?_
      refine vj_sub [3, 4, 2, 1, 0] rfl ?_
      exact wl_W_found_21 G0 n  n x1 0 0 0 hx1 ic_0 ic_0 ic_0 _ hF
    · rw [if_neg c2] at hF
      refine vj_bipush G (v := (-2)) d_W_found_11 rfl ?_
      cases hF
      exact vj_iret G0 ic_m2 d_W_found_13
def HR_closes (w : Wd) (d : Nat) (rec : Nat → Int → Int → Mm → Rr) : Prop := (∀ (x2 x3 : Int) (M : Mm) (r : Int) (M1 : Mm), inR x2 → inR x3 → rec 0 x2 x3 M = some (r, M1) → Ct LC w y_F_closes b_F_closes 6 (some .boolean) (0 + d) (0 + 25 * d) 3 [.ref (wa w 58), .ref (wa w 59), .int (i32 x2), .int (i32 x3)] M r M1)
theorem hrec_F_closes {w : Wd} {d : Nat} {rec : Nat → Int → Int → Mm → Rr} (h : HR_closes w d rec) (x2 x3 : Int) (hx2 : inR x2) (hx3 : inR x3) {M : Mm} {r : Int} {M1 : Mm} (e : rec 0 x2 x3 M = some (r, M1)) : Ct LC w y_F_closes b_F_closes 6 (some .boolean) (0 + d) (0 + 25 * d) 3 [.ref (wa w 58), .ref (wa w 59), .int (i32 x2), .int (i32 x3)] M r M1 := h x2 x3 M r M1 hx2 hx3 e
set_option maxHeartbeats 4000000 in
set_option maxRecDepth 100000 in
theorem wk_F_closes_97 {w : Wd} {X : Cx} {r : Int} {M9 : Mm} {d : Nat} (G0 : Gx LC w X "WhoRules$Flow" b_F_closes 6 (0 + d + 1) (0 + 25 * (d + 1)) (some .boolean)) (n : Nat) (rec : Nat → Int → Int → Mm → Rr) (hrec : HR_closes w d rec) (k52 : Int → Int → Int → Int → Mm → Rr) (hk52 : ∀ (x2 x3 x4 x5 : Int) (hx2 : inR x2) (hx3 : inR x3) (hx4 : inR x4) (hx5 : inR x5) (M : Mm), k52 x2 x3 x4 x5 M = some (r, M9) → VJ LC w X 6 3 r M9 M [(0, .ref (wa w 58)), (1, .ref (wa w 59)), (2, .int (i32 x2)), (3, .int (i32 x3)), (4, .int (i32 x4)), (5, .int (i32 x5))] [] 52) (x2 x3 x4 x5 : Int) (hx2 : inR x2) (hx3 : inR x3) (hx4 : inR x4) (hx5 : inR x5) (M : Mm) (hF : f_F_closes_97 n rec k52 x2 x3 x4 x5 M = some (r, M9)) : VJ LC w X 6 3 r M9 M [(0, .ref (wa w 58)), (1, .ref (wa w 59)), (2, .int (i32 x2)), (3, .int (i32 x3)), (4, .int (i32 x4)), (5, .int (i32 x5))] [] 97 := by
  have G := G0.1
  unfold f_F_closes_97 at hF
  refine vj_iinc G (p9 := 5) (n := 1) (lv2 := [(5, .int (i32 (w32 (x5 + 1)))), (0, .ref (wa w 58)), (1, .ref (wa w 59)), (2, .int (i32 x2)), (3, .int (i32 x3)), (4, .int (i32 x4))]) d_F_closes_97 rfl (by decide) rfl ?_
  refine vj_goto G (tgt := 52) d_F_closes_100 (by decide) ?_
  refine vj_sub [1, 2, 3, 4, 5, 0] rfl ?_
  exact hk52 x2 x3 x4 (w32 (x5 + 1)) hx2 hx3 hx4 (ir_w _) _ hF
set_option maxHeartbeats 4000000 in
set_option maxRecDepth 100000 in
theorem wk_F_closes_52 {w : Wd} {X : Cx} {r : Int} {M9 : Mm} {d : Nat} (G0 : Gx LC w X "WhoRules$Flow" b_F_closes 6 (0 + d + 1) (0 + 25 * (d + 1)) (some .boolean)) (n : Nat) (rec : Nat → Int → Int → Mm → Rr) (hrec : HR_closes w d rec) (k52 : Int → Int → Int → Int → Mm → Rr) (hk52 : ∀ (x2 x3 x4 x5 : Int) (hx2 : inR x2) (hx3 : inR x3) (hx4 : inR x4) (hx5 : inR x5) (M : Mm), k52 x2 x3 x4 x5 M = some (r, M9) → VJ LC w X 6 3 r M9 M [(0, .ref (wa w 58)), (1, .ref (wa w 59)), (2, .int (i32 x2)), (3, .int (i32 x3)), (4, .int (i32 x4)), (5, .int (i32 x5))] [] 52) (x2 x3 x4 x5 : Int) (hx2 : inR x2) (hx3 : inR x3) (hx4 : inR x4) (hx5 : inR x5) (M : Mm) (hF : f_F_closes_52 n rec k52 x2 x3 x4 x5 M = some (r, M9)) : VJ LC w X 6 3 r M9 M [(0, .ref (wa w 58)), (1, .ref (wa w 59)), (2, .int (i32 x2)), (3, .int (i32 x3)), (4, .int (i32 x4)), (5, .int (i32 x5))] [] 52 := by
  have G := G0.1
  unfold f_F_closes_52 at hF
  refine vj_iload G (p9 := 5) d_F_closes_52 rfl ?_
  refine vj_bipush G (v := 16) d_F_closes_54 rfl ?_
  refine vj_icmp_ge G (tgt := 103) d_F_closes_56 (by decide) hx5 ic_16 (fun c1 => ?_) (fun c1 => ?_)
  · rw [if_pos c1] at hF
    refine vj_iconst G (v := 0) d_F_closes_103 rfl ?_
    cases hF
    exact vj_zret G0 (Or.inl rfl) d_F_closes_104
  · rw [if_neg c1] at hF
    refine vj_iload_n G (p9 := 2) d_F_closes_59 rfl rfl ?_
    refine vj_bipush G (v := 7) d_F_closes_60 rfl ?_
    refine vj_icmp_ge G (tgt := 103) d_F_closes_62 (by decide) hx2 ic_7 (fun c2 => ?_) (fun c2 => ?_)
    · rw [if_pos c2] at hF
      refine vj_iconst G (v := 0) d_F_closes_103 rfl ?_
      cases hF
      exact vj_zret G0 (Or.inl rfl) d_F_closes_104
    · rw [if_neg c2] at hF
      refine vj_aload_n G (p9 := 0) d_F_closes_65 rfl rfl ?_
      refine vj_iload G (p9 := 4) d_F_closes_66 rfl ?_
      obtain ⟨c3, hF⟩ := ck_some hF
      refine vj_iald G (x := x4) lkC_58 (by decide) c3 d_F_closes_68 ?_
      refine vj_mr (fun hM4 => ?_)
      refine vj_iload G (p9 := 5) d_F_closes_69 rfl ?_
      refine vj_ishr G d_F_closes_71 ?_
      refine vj_iconst G (v := 1) d_F_closes_72 rfl ?_
      refine vj_iand G d_F_closes_73 ?_
      refine vj_iconst G (v := 1) d_F_closes_74 rfl ?_
      refine vj_icmp_ne G (tgt := 97) d_F_closes_75 (by decide) (ir_an _ _) ic_1 (fun c5 => ?_) (fun c5 => ?_)
      · rw [if_pos c5] at hF
        exact wk_F_closes_97 G0 n rec hrec k52 hk52 x2 x3 x4 x5 hx2 hx3 hx4 hx5 _ hF
      · rw [if_neg c5] at hF
        refine vj_aload_n G (p9 := 1) d_F_closes_78 rfl rfl ?_
        refine vj_iload_n G (p9 := 2) d_F_closes_79 rfl rfl ?_
        refine vj_iload G (p9 := 5) d_F_closes_80 rfl ?_
        obtain ⟨c6, hF⟩ := ck_some hF
        refine vj_iast G (x := x2) lkC_59 (by decide) (by decide) (by decide) c6 hx5 d_F_closes_82 ?_
        refine vj_aload_n G (p9 := 0) d_F_closes_83 rfl rfl ?_
        refine vj_aload_n G (p9 := 1) d_F_closes_84 rfl rfl ?_
        refine vj_iload_n G (p9 := 2) d_F_closes_85 rfl rfl ?_
        refine vj_iconst G (v := 1) d_F_closes_86 rfl ?_
        refine vj_iadd G d_F_closes_87 ?_
        refine vj_iload_n G (p9 := 3) d_F_closes_88 rfl rfl ?_
        obtain ⟨r7, M7, e7, hF⟩ := bnd_some hF
        refine vj_callS3 G (hrec_F_closes hrec (w32 (x2 + 1)) x3 (ir_w _) hx3 e7) q_1136 cq_F_closes rfl (by omega) (by omega) (Nat.le_of_ble_eq_true rfl) d_F_closes_89 rfl (fun hr7 => ?_)
        refine vj_if_eq G (tgt := 97) d_F_closes_92 (by decide) (ir_b hr7) (fun c8 => ?_) (fun c8 => ?_)
        · rw [if_pos c8] at hF
          exact wk_F_closes_97 G0 n rec hrec k52 hk52 x2 x3 x4 x5 hx2 hx3 hx4 hx5 _ hF
        · rw [if_neg c8] at hF
          refine vj_iconst G (v := 1) d_F_closes_95 rfl ?_
          cases hF
          exact vj_zret G0 (Or.inr rfl) d_F_closes_96
set_option maxHeartbeats 4000000 in
set_option maxRecDepth 100000 in
theorem wl_F_closes_52 {w : Wd} {X : Cx} {r : Int} {M9 : Mm} {d : Nat} (G0 : Gx LC w X "WhoRules$Flow" b_F_closes 6 (0 + d + 1) (0 + 25 * (d + 1)) (some .boolean)) (n : Nat) (rec : Nat → Int → Int → Mm → Rr) (hrec : HR_closes w d rec) : ∀ (f : Nat) (x2 x3 x4 x5 : Int) (hx2 : inR x2) (hx3 : inR x3) (hx4 : inR x4) (hx5 : inR x5) (M : Mm), lp_F_closes_52 n rec f x2 x3 x4 x5 M = some (r, M9) → VJ LC w X 6 3 r M9 M [(0, .ref (wa w 58)), (1, .ref (wa w 59)), (2, .int (i32 x2)), (3, .int (i32 x3)), (4, .int (i32 x4)), (5, .int (i32 x5))] [] 52 := by
  intro f
  induction f with
  | zero => intro x2 x3 x4 x5 hx2 hx3 hx4 hx5 M hF; cases hF
  | succ f ih => intro x2 x3 x4 x5 hx2 hx3 hx4 hx5 M hF; exact wk_F_closes_52 G0 n rec hrec (lp_F_closes_52 n rec f) ih x2 x3 x4 x5 hx2 hx3 hx4 hx5 M hF
set_option maxHeartbeats 4000000 in
set_option maxRecDepth 100000 in
theorem cr_F_closes {w : Wd} {d : Nat} (hij : ij LC w) (n : Nat) (rec : Nat → Int → Int → Mm → Rr) (hrec : HR_closes w d rec) (x2 x3 : Int) (hx2 : inR x2) (hx3 : inR x3) {M : Mm} {r : Int} {M9 : Mm} (hF : f_F_closes n rec x2 x3 M = some (r, M9)) : Ct LC w y_F_closes b_F_closes 6 (some .boolean) (0 + d + 1) (0 + 25 * (d + 1)) 3 [.ref (wa w 58), .ref (wa w 59), .int (i32 x2), .int (i32 x3)] M r M9 := by
  refine Ct.of hij KstC (by decide +kernel) (Nat.le_of_ble_eq_true rfl) (fun X G0 => ?_)
  have G := G0.1
  show VJ LC w X 6 3 r M9 M [(0, .ref (wa w 58)), (1, .ref (wa w 59)), (2, .int (i32 x2)), (3, .int (i32 x3))] [] 0
  unfold f_F_closes at hF
  refine vj_iload_n G (p9 := 2) d_F_closes_0 rfl rfl ?_
  refine vj_iconst G (v := 1) d_F_closes_1 rfl ?_
  refine vj_icmp_lt G (tgt := 11) d_F_closes_2 (by decide) hx2 ic_1 (fun c1 => ?_) (fun c1 => ?_)
  · rw [if_pos c1] at hF
    refine vj_iconst G (v := 0) d_F_closes_11 rfl ?_
    cases hF
    exact vj_zret G0 (Or.inl rfl) d_F_closes_12
  · rw [if_neg c1] at hF
    refine vj_iload_n G (p9 := 2) d_F_closes_5 rfl rfl ?_
    refine vj_bipush G (v := 7) d_F_closes_6 rfl ?_
    refine vj_icmp_le G (tgt := 13) d_F_closes_8 (by decide) hx2 ic_7 (fun c2 => ?_) (fun c2 => ?_)
    · rw [if_pos c2] at hF
      refine vj_aload_n G (p9 := 1) d_F_closes_13 rfl rfl ?_
      refine vj_iload_n G (p9 := 2) d_F_closes_14 rfl rfl ?_
      refine vj_iconst G (v := 1) d_F_closes_15 rfl ?_
      refine vj_isub G d_F_closes_16 ?_
      obtain ⟨c3, hF⟩ := ck_some hF
      refine vj_iald G (x := w32 (x2 - 1)) lkC_59 (by decide) c3 d_F_closes_17 ?_
      refine vj_mr (fun hM4 => ?_)
      refine vj_istore G (lv2 := [(4, .int (i32 (M 59 (w32 (x2 - 1)).toNat))), (0, .ref (wa w 58)), (1, .ref (wa w 59)), (2, .int (i32 x2)), (3, .int (i32 x3))]) d_F_closes_18 (by decide) rfl ?_
      refine vj_iload_n G (p9 := 3) d_F_closes_20 rfl rfl ?_
      refine vj_iload_n G (p9 := 4) d_F_closes_21 rfl rfl ?_
      refine vj_icmp_ne G (tgt := 45) d_F_closes_22 (by decide) hx2 hx3 (fun c5 => ?_) (fun c5 => ?_)
      · rw [if_pos c5] at hF
        refine vj_aload_n G (p9 := 2) d_F_closes_45 rfl rfl ?_
        refine vj_iconst G (v := 0) d_F_closes_46 rfl ?_
        refine vj_iald G (x := 0) lkC_59 (by decide) ⟨by decide, by decide⟩ d_F_closes_47 ?_
        refine vj_mr (fun hM6 => ?_)
        refine vj_iconst G (v := 1) d_F_closes_48 rfl ?_
        refine vj_iadd G d_F_closes_49 ?_
        refine vj_istore G (lv2 := [(5, .int (i32 (w32 ((M 59 (0 : Int).toNat) + 1)))), (4, .int (i32 (M 59 (w32 (x2 - 1)).toNat))), (0, .ref (wa w 58)), (1, .ref (wa w 59)), (2, .int (i32 x2)), (3, .int (i32 x3))]) d_F_closes_50 (by decide) rfl ?_
        refine vj_sub [2, 3, 4, 5, 1, 0] rfl ?_
        exact wl_F_closes_52 G0 n rec hrec  n x2 x3 (M 59 (w32 (x2 - 1)).toNat) (w32 ((M 59 (0 : Int).toNat) + 1)) hx2 hx3 (mr_a hM4 lkC_59) (ir_w _) _ hF
      · rw [if_neg c5] at hF
        refine vj_aload_n G (p9 := 1) d_F_closes_25 rfl rfl ?_
        refine vj_iload G (p9 := 0) d_F_closes_26 rfl ?_
        obtain ⟨c7, hF⟩ := ck_some hF
        refine vj_iald G (x := (M 59 (w32 (x2 - 1)).toNat)) lkC_58 (by decide) c7 d_F_closes_28 ?_
        refine vj_mr (fun hM8 => ?_)
        refine vj_aload_n G (p9 := 2) d_F_closes_29 rfl rfl ?_
        refine vj_iconst G (v := 0) d_F_closes_30 rfl ?_
        refine vj_iald G (x := 0) lkC_59 (by decide) ⟨by decide, by decide⟩ d_F_closes_31 ?_
        refine vj_ishr G d_F_closes_32 ?_
        refine vj_iconst G (v := 1) d_F_closes_33 rfl ?_
        refine vj_iand G d_F_closes_34 ?_
        refine vj_iconst G (v := 1) d_F_closes_35 rfl ?_
        refine vj_icmp_ne G (tgt := 43) d_F_closes_36 (by decide) (ir_an _ _) ic_1 (fun c9 => ?_) (fun c9 => ?_)
        · rw [if_pos c9] at hF
          refine vj_iconst G (v := 0) d_F_closes_43 rfl ?_
          cases hF
          exact vj_zret G0 (Or.inl rfl) d_F_closes_44
        · rw [if_neg c9] at hF
          refine vj_iconst G (v := 1) d_F_closes_39 rfl ?_
          refine vj_goto G (tgt := 44) d_F_closes_40 (by decide) ?_
          cases hF
          exact vj_zret G0 (Or.inr rfl) d_F_closes_44
    · rw [if_neg c2] at hF
      refine vj_iconst G (v := 0) d_F_closes_11 rfl ?_
      cases hF
      exact vj_zret G0 (Or.inl rfl) d_F_closes_12
theorem cg_closes {w : Wd} (hij : ij LC w) (n : Nat) : ∀ d : Nat, HR_closes w d (g_closes n d) := by
  intro d
  induction d with
  | zero => exact (fun _ _ _ _ _ _ _ e => by cases e)
  | succ d ih => exact (fun x2 x3 M r M1 hx2 hx3 e => cr_F_closes hij n (g_closes n d) ih x2 x3 hx2 hx3 e)
theorem ct_F_closes {w : Wd} (hij : ij LC w) (n d : Nat) (x2 x3 : Int) (hx2 : inR x2) (hx3 : inR x3) {M : Mm} {r : Int} {M1 : Mm} (e : g_closes n d 0 x2 x3 M = some (r, M1)) : Ct LC w y_F_closes b_F_closes 6 (some .boolean) (0 + d) (0 + 25 * d) 3 [.ref (wa w 58), .ref (wa w 59), .int (i32 x2), .int (i32 x3)] M r M1 := hrec_F_closes (cg_closes hij n d) x2 x3 hx2 hx3 e
set_option maxHeartbeats 4000000 in
set_option maxRecDepth 100000 in
theorem wk_F_findRing_118 {w : Wd} {X : Cx} {r : Int} {M9 : Mm} (G0 : Gx LC w X "WhoRules$Flow" b_F_findRing 4 11 275 (some .int)) (n : Nat) (k105 : Int → Mm → Rr) (hk105 : ∀ (x1 : Int) (hx1 : inR x1) (M : Mm), k105 x1 M = some (r, M9) → VJ LC w X 4 1 r M9 M [(0, .ref (wa w 5)), (1, .int (i32 x1))] [] 105) (k118 : Int → Int → Mm → Rr) (hk118 : ∀ (x1 x2 : Int) (hx1 : inR x1) (hx2 : inR x2) (M : Mm), k118 x1 x2 M = some (r, M9) → VJ LC w X 4 1 r M9 M [(0, .ref (wa w 5)), (1, .int (i32 x1)), (2, .int (i32 x2))] [] 118) (x1 x2 : Int) (hx1 : inR x1) (hx2 : inR x2) (M : Mm) (hF : f_F_findRing_118 n k105 k118 x1 x2 M = some (r, M9)) : VJ LC w X 4 1 r M9 M [(0, .ref (wa w 5)), (1, .int (i32 x1)), (2, .int (i32 x2))] [] 118 := by
  have G := G0.1
  unfold f_F_findRing_118 at hF
  refine vj_iload_n G (p9 := 2) d_F_findRing_118 rfl rfl ?_
  refine vj_aload_n G (p9 := 0) d_F_findRing_119 rfl rfl ?_
  refine gfC_F_37 G d_F_findRing_120 ?_
  refine gfC_F_51 G d_F_findRing_123 ?_
  refine vj_mr (fun hM1 => ?_)
  refine vj_icmp_ge G (tgt := 168) d_F_findRing_126 (by decide) hx2 (mr_o hM1 lkC_1 flC_7_2) (fun c2 => ?_) (fun c2 => ?_)
  · rw [if_pos c2] at hF
    refine vj_iinc G (p9 := 1) (n := 1) (lv2 := [(1, .int (i32 (w32 (x1 + 1)))), (0, .ref (wa w 5)), (2, .int (i32 x2))]) d_F_findRing_168 rfl (by decide) rfl ?_
    refine vj_goto G (tgt := 105) d_F_findRing_171 (by decide) ?_
    refine vj_sub [1, 0] rfl ?_
    exact hk105 (w32 (x1 + 1)) (ir_w _) _ hF
  · rw [if_neg c2] at hF
    refine vj_aload_n G (p9 := 0) d_F_findRing_129 rfl rfl ?_
    refine gfC_F_23 G d_F_findRing_130 ?_
    refine vj_iconst G (v := 0) d_F_findRing_133 rfl ?_
    refine vj_aload_n G (p9 := 0) d_F_findRing_134 rfl rfl ?_
    refine gfC_F_37 G d_F_findRing_135 ?_
    refine gfC_F_54 G d_F_findRing_138 ?_
    refine vj_iload_n G (p9 := 2) d_F_findRing_141 rfl rfl ?_
    obtain ⟨c3, hF⟩ := ck_some hF
    refine vj_iald G (x := x2) lkC_19 (by decide) c3 d_F_findRing_142 ?_
    refine vj_mr (fun hM4 => ?_)
    refine vj_iast G (x := 0) lkC_59 (by decide) (by decide) (by decide) ⟨by decide, by decide⟩ (mr_a hM4 lkC_19) d_F_findRing_143 ?_
    refine vj_aload_n G (p9 := 0) d_F_findRing_144 rfl rfl ?_
    refine gfC_F_20 G d_F_findRing_145 ?_
    refine vj_aload_n G (p9 := 0) d_F_findRing_148 rfl rfl ?_
    refine gfC_F_23 G d_F_findRing_149 ?_
    refine vj_iconst G (v := 1) d_F_findRing_152 rfl ?_
    refine vj_iload_n G (p9 := 1) d_F_findRing_153 rfl rfl ?_
    obtain ⟨r5, M5, e5, hF⟩ := bnd_some hF
    refine vj_callS3 G (ct_F_closes (gx_ij G) n 10 1 x1 ic_1 hx1 e5) q_1136 cq_F_closes rfl (by decide) (by decide) (Nat.le_of_ble_eq_true rfl) d_F_findRing_154 rfl (fun hr5 => ?_)
    refine vj_if_eq G (tgt := 162) d_F_findRing_157 (by decide) (ir_b hr5) (fun c6 => ?_) (fun c6 => ?_)
    · rw [if_pos c6] at hF
      refine vj_iinc G (p9 := 2) (n := 1) (lv2 := [(2, .int (i32 (w32 (x2 + 1)))), (0, .ref (wa w 5)), (1, .int (i32 x1))]) d_F_findRing_162 rfl (by decide) rfl ?_
      refine vj_goto G (tgt := 118) d_F_findRing_165 (by decide) ?_
      refine vj_sub [1, 2, 0] rfl ?_
      exact hk118 x1 (w32 (x2 + 1)) hx1 (ir_w _) _ hF
    · rw [if_neg c6] at hF
      refine vj_iload_n G (p9 := 1) d_F_findRing_160 rfl rfl ?_
      cases hF
      exact vj_iret G0 hx1 d_F_findRing_161
set_option maxHeartbeats 4000000 in
set_option maxRecDepth 100000 in
theorem wl_F_findRing_118 {w : Wd} {X : Cx} {r : Int} {M9 : Mm} (G0 : Gx LC w X "WhoRules$Flow" b_F_findRing 4 11 275 (some .int)) (n : Nat) (k105 : Int → Mm → Rr) (hk105 : ∀ (x1 : Int) (hx1 : inR x1) (M : Mm), k105 x1 M = some (r, M9) → VJ LC w X 4 1 r M9 M [(0, .ref (wa w 5)), (1, .int (i32 x1))] [] 105) : ∀ (f : Nat) (x1 x2 : Int) (hx1 : inR x1) (hx2 : inR x2) (M : Mm), lp_F_findRing_118 n k105 f x1 x2 M = some (r, M9) → VJ LC w X 4 1 r M9 M [(0, .ref (wa w 5)), (1, .int (i32 x1)), (2, .int (i32 x2))] [] 118 := by
  intro f
  induction f with
  | zero => intro x1 x2 hx1 hx2 M hF; cases hF
  | succ f ih => intro x1 x2 hx1 hx2 M hF; exact wk_F_findRing_118 G0 n k105 hk105 (lp_F_findRing_118 n k105 f) ih x1 x2 hx1 hx2 M hF
set_option maxHeartbeats 4000000 in
set_option maxRecDepth 100000 in
theorem wk_F_findRing_105 {w : Wd} {X : Cx} {r : Int} {M9 : Mm} (G0 : Gx LC w X "WhoRules$Flow" b_F_findRing 4 11 275 (some .int)) (n : Nat) (k105 : Int → Mm → Rr) (hk105 : ∀ (x1 : Int) (hx1 : inR x1) (M : Mm), k105 x1 M = some (r, M9) → VJ LC w X 4 1 r M9 M [(0, .ref (wa w 5)), (1, .int (i32 x1))] [] 105) (x1 : Int) (hx1 : inR x1) (M : Mm) (hF : f_F_findRing_105 n k105 x1 M = some (r, M9)) : VJ LC w X 4 1 r M9 M [(0, .ref (wa w 5)), (1, .int (i32 x1))] [] 105 := by
  have G := G0.1
  unfold f_F_findRing_105 at hF
  refine vj_iload_n G (p9 := 1) d_F_findRing_105 rfl rfl ?_
  refine vj_aload_n G (p9 := 0) d_F_findRing_106 rfl rfl ?_
  refine gfC_F_37 G d_F_findRing_107 ?_
  refine gfC_F_51 G d_F_findRing_110 ?_
  refine vj_mr (fun hM1 => ?_)
  refine vj_icmp_gt G (tgt := 174) d_F_findRing_113 (by decide) hx1 (mr_o hM1 lkC_1 flC_7_2) (fun c2 => ?_) (fun c2 => ?_)
  · rw [if_pos c2] at hF
    refine vj_iconst G (v := 0) d_F_findRing_174 rfl ?_
    cases hF
    exact vj_iret G0 ic_0 d_F_findRing_175
  · rw [if_neg c2] at hF
    refine vj_iconst G (v := 0) d_F_findRing_116 rfl ?_
    refine vj_istore_n G (lv2 := [(2, .int (i32 0)), (0, .ref (wa w 5)), (1, .int (i32 x1))]) d_F_findRing_117 rfl (by decide) rfl ?_
    refine vj_sub [1, 2, 0] rfl ?_
    exact wl_F_findRing_118 G0 n k105 hk105 n x1 0 hx1 ic_0 _ hF
set_option maxHeartbeats 4000000 in
set_option maxRecDepth 100000 in
theorem wl_F_findRing_105 {w : Wd} {X : Cx} {r : Int} {M9 : Mm} (G0 : Gx LC w X "WhoRules$Flow" b_F_findRing 4 11 275 (some .int)) (n : Nat) : ∀ (f : Nat) (x1 : Int) (hx1 : inR x1) (M : Mm), lp_F_findRing_105 n f x1 M = some (r, M9) → VJ LC w X 4 1 r M9 M [(0, .ref (wa w 5)), (1, .int (i32 x1))] [] 105 := by
  intro f
  induction f with
  | zero => intro x1 hx1 M hF; cases hF
  | succ f ih => intro x1 hx1 M hF; exact wk_F_findRing_105 G0 n (lp_F_findRing_105 n f) ih x1 hx1 M hF
set_option maxHeartbeats 4000000 in
set_option maxRecDepth 100000 in
theorem wk_F_findRing_89 {w : Wd} {X : Cx} {r : Int} {M9 : Mm} (G0 : Gx LC w X "WhoRules$Flow" b_F_findRing 4 11 275 (some .int)) (n : Nat) (k14 : Int → Mm → Rr) (hk14 : ∀ (x1 : Int) (hx1 : inR x1) (M : Mm), k14 x1 M = some (r, M9) → VJ LC w X 4 1 r M9 M [(0, .ref (wa w 5)), (1, .int (i32 x1))] [] 14) (k27 : Int → Int → Mm → Rr) (hk27 : ∀ (x1 x2 : Int) (hx1 : inR x1) (hx2 : inR x2) (M : Mm), k27 x1 x2 M = some (r, M9) → VJ LC w X 4 1 r M9 M [(0, .ref (wa w 5)), (1, .int (i32 x1)), (2, .int (i32 x2))] [] 27) (x1 x2 s1 s2 s3 : Int) (hx1 : inR x1) (hx2 : inR x2) (hs1 : inR s1) (hs2 : inR s2) (hs3 : inR s3) (M : Mm) (hF : f_F_findRing_89 n k14 k27 x1 x2 s1 s2 s3 M = some (r, M9)) : VJ LC w X 4 1 r M9 M [(0, .ref (wa w 5)), (1, .int (i32 x1)), (2, .int (i32 x2))] [.int (i32 s3), .int (i32 s2), .int (i32 s1), .ref (wa w 58)] 89 := by
  have G := G0.1
  unfold f_F_findRing_89 at hF
  refine vj_ior G d_F_findRing_89 ?_
  obtain ⟨c1, hF⟩ := ck_some hF
  refine vj_iast G (x := s1) lkC_58 (by decide) (by decide) (by decide) c1 (ir_or _ _) d_F_findRing_90 ?_
  refine vj_iinc G (p9 := 2) (n := 1) (lv2 := [(2, .int (i32 (w32 (x2 + 1)))), (0, .ref (wa w 5)), (1, .int (i32 x1))]) d_F_findRing_91 rfl (by decide) rfl ?_
  refine vj_goto G (tgt := 27) d_F_findRing_94 (by decide) ?_
  refine vj_sub [1, 2, 0] rfl ?_
  exact hk27 x1 (w32 (x2 + 1)) hx1 (ir_w _) _ hF
set_option maxHeartbeats 4000000 in
set_option maxRecDepth 100000 in
theorem wk_F_findRing_27 {w : Wd} {X : Cx} {r : Int} {M9 : Mm} (G0 : Gx LC w X "WhoRules$Flow" b_F_findRing 4 11 275 (some .int)) (n : Nat) (k14 : Int → Mm → Rr) (hk14 : ∀ (x1 : Int) (hx1 : inR x1) (M : Mm), k14 x1 M = some (r, M9) → VJ LC w X 4 1 r M9 M [(0, .ref (wa w 5)), (1, .int (i32 x1))] [] 14) (k27 : Int → Int → Mm → Rr) (hk27 : ∀ (x1 x2 : Int) (hx1 : inR x1) (hx2 : inR x2) (M : Mm), k27 x1 x2 M = some (r, M9) → VJ LC w X 4 1 r M9 M [(0, .ref (wa w 5)), (1, .int (i32 x1)), (2, .int (i32 x2))] [] 27) (x1 x2 : Int) (hx1 : inR x1) (hx2 : inR x2) (M : Mm) (hF : f_F_findRing_27 n k14 k27 x1 x2 M = some (r, M9)) : VJ LC w X 4 1 r M9 M [(0, .ref (wa w 5)), (1, .int (i32 x1)), (2, .int (i32 x2))] [] 27 := by
  have G := G0.1
  unfold f_F_findRing_27 at hF
  refine vj_iload_n G (p9 := 2) d_F_findRing_27 rfl rfl ?_
  refine vj_aload_n G (p9 := 0) d_F_findRing_28 rfl rfl ?_
  refine gfC_F_37 G d_F_findRing_29 ?_
  refine gfC_F_51 G d_F_findRing_32 ?_
  refine vj_mr (fun hM1 => ?_)
  refine vj_icmp_ge G (tgt := 97) d_F_findRing_35 (by decide) hx2 (mr_o hM1 lkC_1 flC_7_2) (fun c2 => ?_) (fun c2 => ?_)
  · rw [if_pos c2] at hF
    refine vj_iinc G (p9 := 1) (n := 1) (lv2 := [(1, .int (i32 (w32 (x1 + 1)))), (0, .ref (wa w 5)), (2, .int (i32 x2))]) d_F_findRing_97 rfl (by decide) rfl ?_
    refine vj_goto G (tgt := 14) d_F_findRing_100 (by decide) ?_
    refine vj_sub [1, 0] rfl ?_
    exact hk14 (w32 (x1 + 1)) (ir_w _) _ hF
  · rw [if_neg c2] at hF
    refine vj_aload_n G (p9 := 0) d_F_findRing_38 rfl rfl ?_
    refine gfC_F_37 G d_F_findRing_39 ?_
    refine gfC_F_54 G d_F_findRing_42 ?_
    refine vj_iload_n G (p9 := 2) d_F_findRing_45 rfl rfl ?_
    obtain ⟨c3, hF⟩ := ck_some hF
    refine vj_iald G (x := x2) lkC_19 (by decide) c3 d_F_findRing_46 ?_
    refine vj_mr (fun hM4 => ?_)
    refine vj_istore_n G (lv2 := [(3, .int (i32 (M 19 x2.toNat))), (0, .ref (wa w 5)), (1, .int (i32 x1)), (2, .int (i32 x2))]) d_F_findRing_47 rfl (by decide) rfl ?_
    refine vj_aload_n G (p9 := 1) d_F_findRing_48 rfl rfl ?_
    refine gfC_F_20 G d_F_findRing_49 ?_
    refine vj_iload_n G (p9 := 0) d_F_findRing_52 rfl rfl ?_
    refine vj_dup2_11 G d_F_findRing_53 rfl rfl ?_
    obtain ⟨c5, hF⟩ := ck_some hF
    refine vj_iald G (x := (M 19 x2.toNat)) lkC_58 (by decide) c5 d_F_findRing_54 ?_
    refine vj_aload_n G (p9 := 1) d_F_findRing_55 rfl rfl ?_
    refine gfC_F_11 G d_F_findRing_56 ?_
    refine vj_aload_n G (p9 := 1) d_F_findRing_59 rfl rfl ?_
    refine gfC_F_37 G d_F_findRing_60 ?_
    refine gfC_F_54 G d_F_findRing_63 ?_
    refine vj_iload_n G (p9 := 2) d_F_findRing_66 rfl rfl ?_
    obtain ⟨c6, hF⟩ := ck_some hF
    refine vj_iald G (x := x1) lkC_19 (by decide) c6 d_F_findRing_67 ?_
    obtain ⟨c7, hF⟩ := ck_some hF
    refine vj_aald5 G (x := (M 19 x1.toNat)) lkC_56 (by decide) c7 d_F_findRing_68 ?_
    refine vj_iload_n G (p9 := 0) d_F_findRing_69 rfl rfl ?_
    obtain ⟨c8, hF⟩ := ck_some hF
    refine vj_iald G (x := (M 19 x2.toNat)) (lkC_r180 c7) (by decide) c8 d_F_findRing_70 ?_
    refine vj_if_le G (tgt := 88) d_F_findRing_71 (by decide) (mr_a hM4 (lkC_r180 c7)) (fun c9 => ?_) (fun c9 => ?_)
    · rw [if_pos c9] at hF
      refine vj_iconst G (v := 0) d_F_findRing_88 rfl ?_
      refine vj_sub [1, 2, 3] rfl ?_
      exact wk_F_findRing_89 G0 n k14 hk14 k27 hk27 x1 x2 (M 19 x2.toNat) (M 58 (M 19 x2.toNat).toNat) 0 hx1 hx2 (mr_a hM4 lkC_19) (mr_a hM4 lkC_58) ic_0 _ hF
    · rw [if_neg c9] at hF
      refine vj_iconst G (v := 1) d_F_findRing_74 rfl ?_
      refine vj_aload_n G (p9 := 1) d_F_findRing_75 rfl rfl ?_
      refine gfC_F_37 G d_F_findRing_76 ?_
      refine gfC_F_54 G d_F_findRing_79 ?_
      refine vj_iload_n G (p9 := 2) d_F_findRing_82 rfl rfl ?_
      obtain ⟨c10, hF⟩ := ck_some hF
      refine vj_iald G (x := x1) lkC_19 (by decide) c10 d_F_findRing_83 ?_
      refine vj_mr (fun hM11 => ?_)
      refine vj_ishl G d_F_findRing_84 ?_
      refine vj_goto G (tgt := 89) d_F_findRing_85 (by decide) ?_
      refine vj_sub [1, 2, 3] rfl ?_
      exact wk_F_findRing_89 G0 n k14 hk14 k27 hk27 x1 x2 (M 19 x2.toNat) (M 58 (M 19 x2.toNat).toNat) (ish 1 (M 19 x1.toNat)) hx1 hx2 (mr_a hM4 lkC_19) (mr_a hM4 lkC_58) (ir_sh _ _) _ hF
set_option maxHeartbeats 4000000 in
set_option maxRecDepth 100000 in
theorem wl_F_findRing_27 {w : Wd} {X : Cx} {r : Int} {M9 : Mm} (G0 : Gx LC w X "WhoRules$Flow" b_F_findRing 4 11 275 (some .int)) (n : Nat) (k14 : Int → Mm → Rr) (hk14 : ∀ (x1 : Int) (hx1 : inR x1) (M : Mm), k14 x1 M = some (r, M9) → VJ LC w X 4 1 r M9 M [(0, .ref (wa w 5)), (1, .int (i32 x1))] [] 14) : ∀ (f : Nat) (x1 x2 : Int) (hx1 : inR x1) (hx2 : inR x2) (M : Mm), lp_F_findRing_27 n k14 f x1 x2 M = some (r, M9) → VJ LC w X 4 1 r M9 M [(0, .ref (wa w 5)), (1, .int (i32 x1)), (2, .int (i32 x2))] [] 27 := by
  intro f
  induction f with
  | zero => intro x1 x2 hx1 hx2 M hF; cases hF
  | succ f ih => intro x1 x2 hx1 hx2 M hF; exact wk_F_findRing_27 G0 n k14 hk14 (lp_F_findRing_27 n k14 f) ih x1 x2 hx1 hx2 M hF
set_option maxHeartbeats 4000000 in
set_option maxRecDepth 100000 in
theorem wk_F_findRing_14 {w : Wd} {X : Cx} {r : Int} {M9 : Mm} (G0 : Gx LC w X "WhoRules$Flow" b_F_findRing 4 11 275 (some .int)) (n : Nat) (k14 : Int → Mm → Rr) (hk14 : ∀ (x1 : Int) (hx1 : inR x1) (M : Mm), k14 x1 M = some (r, M9) → VJ LC w X 4 1 r M9 M [(0, .ref (wa w 5)), (1, .int (i32 x1))] [] 14) (x1 : Int) (hx1 : inR x1) (M : Mm) (hF : f_F_findRing_14 n k14 x1 M = some (r, M9)) : VJ LC w X 4 1 r M9 M [(0, .ref (wa w 5)), (1, .int (i32 x1))] [] 14 := by
  have G := G0.1
  unfold f_F_findRing_14 at hF
  refine vj_iload_n G (p9 := 1) d_F_findRing_14 rfl rfl ?_
  refine vj_aload_n G (p9 := 0) d_F_findRing_15 rfl rfl ?_
  refine gfC_F_37 G d_F_findRing_16 ?_
  refine gfC_F_51 G d_F_findRing_19 ?_
  refine vj_mr (fun hM1 => ?_)
  refine vj_icmp_ge G (tgt := 103) d_F_findRing_22 (by decide) hx1 (mr_o hM1 lkC_1 flC_7_2) (fun c2 => ?_) (fun c2 => ?_)
  · rw [if_pos c2] at hF
    refine vj_iconst G (v := 1) d_F_findRing_103 rfl ?_
    refine vj_istore_n G (lv2 := [(1, .int (i32 1)), (0, .ref (wa w 5))]) d_F_findRing_104 rfl (by decide) rfl ?_
    refine vj_sub [1, 0] rfl ?_
    exact wl_F_findRing_105 G0 n  n 1 ic_1 _ hF
  · rw [if_neg c2] at hF
    refine vj_iconst G (v := 0) d_F_findRing_25 rfl ?_
    refine vj_istore_n G (lv2 := [(2, .int (i32 0)), (0, .ref (wa w 5)), (1, .int (i32 x1))]) d_F_findRing_26 rfl (by decide) rfl ?_
    refine vj_sub [1, 2, 0] rfl ?_
    exact wl_F_findRing_27 G0 n k14 hk14 n x1 0 hx1 ic_0 _ hF
set_option maxHeartbeats 4000000 in
set_option maxRecDepth 100000 in
theorem wl_F_findRing_14 {w : Wd} {X : Cx} {r : Int} {M9 : Mm} (G0 : Gx LC w X "WhoRules$Flow" b_F_findRing 4 11 275 (some .int)) (n : Nat) : ∀ (f : Nat) (x1 : Int) (hx1 : inR x1) (M : Mm), lp_F_findRing_14 n f x1 M = some (r, M9) → VJ LC w X 4 1 r M9 M [(0, .ref (wa w 5)), (1, .int (i32 x1))] [] 14 := by
  intro f
  induction f with
  | zero => intro x1 hx1 M hF; cases hF
  | succ f ih => intro x1 hx1 M hF; exact wk_F_findRing_14 G0 n (lp_F_findRing_14 n f) ih x1 hx1 M hF
set_option maxHeartbeats 4000000 in
set_option maxRecDepth 100000 in
theorem ct_F_findRing {w : Wd} (hij : ij LC w) (n : Nat) {M : Mm} {r : Int} {M9 : Mm} (hF : f_F_findRing n  M = some (r, M9)) : Ct LC w y_F_findRing b_F_findRing 4 (some .int) 11 275 1 [.ref (wa w 5)] M r M9 := by
  refine Ct.of hij KstC (by decide +kernel) (Nat.le_of_ble_eq_true rfl) (fun X G0 => ?_)
  have G := G0.1
  show VJ LC w X 4 1 r M9 M [(0, .ref (wa w 5))] [] 0
  unfold f_F_findRing at hF
  refine vj_aload_n G (p9 := 0) d_F_findRing_0 rfl rfl ?_
  obtain ⟨r1, M1, e1, hF⟩ := bnd_some hF
  refine vj_callV0 G (ct_F_load (gx_ij G) n   e1) lkC_5 clC_11 rfl q_964 cq_F_load rfl (by decide) (by decide) (Nat.le_of_ble_eq_true rfl) d_F_findRing_1 rfl (fun hr1 => ?_)
  refine vj_aload_n G (p9 := 0) d_F_findRing_4 rfl rfl ?_
  refine gfC_F_20 G d_F_findRing_5 ?_
  refine vj_iconst G (v := 0) d_F_findRing_8 rfl ?_
  refine vj_fillI G lkC_58 (by decide) (by decide) (by decide) q_969 ic_0 (by decide) (by decide) (by decide) d_F_findRing_9 ?_
  refine vj_iconst G (v := 0) d_F_findRing_12 rfl ?_
  refine vj_istore_n G (lv2 := [(1, .int (i32 0)), (0, .ref (wa w 5))]) d_F_findRing_13 rfl (by decide) rfl ?_
  refine vj_sub [1, 0] rfl ?_
  exact wl_F_findRing_14 G0 n  n 0 ic_0 _ hF
set_option maxHeartbeats 4000000 in
set_option maxRecDepth 100000 in
theorem ct_W_ring {w : Wd} (hij : ij LC w) (n : Nat) (x1 : Int) (hx1 : inR x1) {M : Mm} {r : Int} {M9 : Mm} (hF : f_W_ring n x1 M = some (r, M9)) : Ct LC w y_W_ring b_W_ring 3 (some .int) 12 298 1 [.ref (wa w 0), .int (i32 x1)] M r M9 := by
  refine Ct.of hij KstC (by decide +kernel) (Nat.le_of_ble_eq_true rfl) (fun X G0 => ?_)
  have G := G0.1
  show VJ LC w X 3 1 r M9 M [(0, .ref (wa w 0)), (1, .int (i32 x1))] [] 0
  unfold f_W_ring at hF
  refine vj_iload_n G (p9 := 1) d_W_ring_0 rfl rfl ?_
  refine vj_iconst G (v := (-1)) d_W_ring_1 rfl ?_
  refine vj_icmp_ge G (tgt := 7) d_W_ring_2 (by decide) hx1 ic_m1 (fun c1 => ?_) (fun c1 => ?_)
  · rw [if_pos c1] at hF
    refine vj_aload_n G (p9 := 0) d_W_ring_7 rfl rfl ?_
    refine gfC_W_52 G d_W_ring_8 ?_
    obtain ⟨r2, M2, e2, hF⟩ := bnd_some hF
    refine vj_callV1 G (ct_F_findRing (gx_ij G) n   e2) lkC_5 clC_11 rfl q_1132 cq_F_findRing rfl (by decide) (by decide) (Nat.le_of_ble_eq_true rfl) d_W_ring_11 rfl (fun hr2 => ?_)
    refine vj_istore_n G (lv2 := [(2, .int (i32 r2)), (0, .ref (wa w 0)), (1, .int (i32 x1))]) d_W_ring_14 rfl (by decide) rfl ?_
    refine vj_iload_n G (p9 := 2) d_W_ring_15 rfl rfl ?_
    refine vj_iconst G (v := (-1)) d_W_ring_16 rfl ?_
    refine vj_icmp_ne G (tgt := 22) d_W_ring_17 (by decide) hx1 ic_m1 (fun c3 => ?_) (fun c3 => ?_)
    · rw [if_pos c3] at hF
      refine vj_iload_n G (p9 := 2) d_W_ring_22 rfl rfl ?_
      refine vj_iload_n G (p9 := 0) d_W_ring_23 rfl rfl ?_
      refine vj_icmp_ge G (tgt := 39) d_W_ring_24 (by decide) hx1 hr2 (fun c4 => ?_) (fun c4 => ?_)
      · rw [if_pos c4] at hF
        refine vj_iconst G (v := (-1)) d_W_ring_39 rfl ?_
        cases hF
        exact vj_iret G0 ic_m1 d_W_ring_40
      · rw [if_neg c4] at hF
        refine vj_aload_n G (p9 := 1) d_W_ring_27 rfl rfl ?_
        refine gfC_W_52 G d_W_ring_28 ?_
        refine gfC_W_284 G d_W_ring_31 ?_
        refine vj_iload_n G (p9 := 2) d_W_ring_34 rfl rfl ?_
        obtain ⟨c5, hF⟩ := ck_some hF
        refine vj_iald G (x := x1) lkC_59 (by decide) c5 d_W_ring_35 ?_
        refine vj_mr (fun hM6 => ?_)
        refine vj_goto G (tgt := 40) d_W_ring_36 (by decide) ?_
        cases hF
        exact vj_iret G0 (mr_a hM6 lkC_59) d_W_ring_40
    · rw [if_neg c3] at hF
      refine vj_iload_n G (p9 := 0) d_W_ring_20 rfl rfl ?_
      cases hF
      exact vj_iret G0 hr2 d_W_ring_21
  · rw [if_neg c1] at hF
    refine vj_iconst G (v := (-1)) d_W_ring_5 rfl ?_
    cases hF
    exact vj_iret G0 ic_m1 d_W_ring_6
set_option maxHeartbeats 4000000 in
set_option maxRecDepth 100000 in
theorem wk_F_listCuts_76 {w : Wd} {X : Cx} {r : Int} {M9 : Mm} (G0 : Gx LC w X "WhoRules$Flow" b_F_listCuts 3 2 45 (some .int)) (n : Nat) (k18 : Int → Int → Mm → Rr) (hk18 : ∀ (x1 x2 : Int) (hx1 : inR x1) (hx2 : inR x2) (M : Mm), k18 x1 x2 M = some (r, M9) → VJ LC w X 3 1 r M9 M [(0, .ref (wa w 5)), (1, .int (i32 x1)), (2, .int (i32 x2))] [] 18) (x1 x2 : Int) (hx1 : inR x1) (hx2 : inR x2) (M : Mm) (hF : f_F_listCuts_76 n k18 x1 x2 M = some (r, M9)) : VJ LC w X 3 1 r M9 M [(0, .ref (wa w 5)), (1, .int (i32 x1)), (2, .int (i32 x2))] [] 76 := by
  have G := G0.1
  unfold f_F_listCuts_76 at hF
  refine vj_iinc G (p9 := 2) (n := 1) (lv2 := [(2, .int (i32 (w32 (x2 + 1)))), (0, .ref (wa w 5)), (1, .int (i32 x1))]) d_F_listCuts_76 rfl (by decide) rfl ?_
  refine vj_goto G (tgt := 18) d_F_listCuts_79 (by decide) ?_
  refine vj_sub [1, 2, 0] rfl ?_
  exact hk18 x1 (w32 (x2 + 1)) hx1 (ir_w _) _ hF
set_option maxHeartbeats 4000000 in
set_option maxRecDepth 100000 in
theorem wk_F_listCuts_18 {w : Wd} {X : Cx} {r : Int} {M9 : Mm} (G0 : Gx LC w X "WhoRules$Flow" b_F_listCuts 3 2 45 (some .int)) (n : Nat) (k18 : Int → Int → Mm → Rr) (hk18 : ∀ (x1 x2 : Int) (hx1 : inR x1) (hx2 : inR x2) (M : Mm), k18 x1 x2 M = some (r, M9) → VJ LC w X 3 1 r M9 M [(0, .ref (wa w 5)), (1, .int (i32 x1)), (2, .int (i32 x2))] [] 18) (x1 x2 : Int) (hx1 : inR x1) (hx2 : inR x2) (M : Mm) (hF : f_F_listCuts_18 n k18 x1 x2 M = some (r, M9)) : VJ LC w X 3 1 r M9 M [(0, .ref (wa w 5)), (1, .int (i32 x1)), (2, .int (i32 x2))] [] 18 := by
  have G := G0.1
  unfold f_F_listCuts_18 at hF
  refine vj_iload_n G (p9 := 2) d_F_listCuts_18 rfl rfl ?_
  refine vj_aload_n G (p9 := 0) d_F_listCuts_19 rfl rfl ?_
  refine gfC_F_37 G d_F_listCuts_20 ?_
  refine gfC_F_63 G d_F_listCuts_23 ?_
  refine vj_mr (fun hM1 => ?_)
  refine vj_icmp_ge G (tgt := 82) d_F_listCuts_26 (by decide) hx2 (mr_o hM1 lkC_1 flC_7_4) (fun c2 => ?_) (fun c2 => ?_)
  · rw [if_pos c2] at hF
    refine vj_iload_n G (p9 := 1) d_F_listCuts_82 rfl rfl ?_
    cases hF
    exact vj_iret G0 hx1 d_F_listCuts_83
  · rw [if_neg c2] at hF
    refine vj_iload_n G (p9 := 1) d_F_listCuts_29 rfl rfl ?_
    refine vj_bipush G (v := 12) d_F_listCuts_30 rfl ?_
    refine vj_icmp_ge G (tgt := 82) d_F_listCuts_32 (by decide) hx1 ic_12 (fun c3 => ?_) (fun c3 => ?_)
    · rw [if_pos c3] at hF
      refine vj_iload_n G (p9 := 1) d_F_listCuts_82 rfl rfl ?_
      cases hF
      exact vj_iret G0 hx1 d_F_listCuts_83
    · rw [if_neg c3] at hF
      refine vj_aload_n G (p9 := 0) d_F_listCuts_35 rfl rfl ?_
      refine gfC_F_37 G d_F_listCuts_36 ?_
      refine gfC_F_72 G d_F_listCuts_39 ?_
      refine vj_iload_n G (p9 := 2) d_F_listCuts_42 rfl rfl ?_
      obtain ⟨c4, hF⟩ := ck_some hF
      refine vj_iald G (x := x2) lkC_22 (by decide) c4 d_F_listCuts_43 ?_
      refine vj_mr (fun hM5 => ?_)
      refine vj_if_le G (tgt := 76) d_F_listCuts_44 (by decide) (mr_a hM5 lkC_22) (fun c6 => ?_) (fun c6 => ?_)
      · rw [if_pos c6] at hF
        exact wk_F_listCuts_76 G0 n k18 hk18 x1 x2 hx1 hx2 _ hF
      · rw [if_neg c6] at hF
        refine vj_aload_n G (p9 := 0) d_F_listCuts_47 rfl rfl ?_
        refine gfC_F_37 G d_F_listCuts_48 ?_
        refine vj_aload_n G (p9 := 0) d_F_listCuts_51 rfl rfl ?_
        refine gfC_F_37 G d_F_listCuts_52 ?_
        refine gfC_F_66 G d_F_listCuts_55 ?_
        refine vj_iload_n G (p9 := 2) d_F_listCuts_58 rfl rfl ?_
        obtain ⟨c7, hF⟩ := ck_some hF
        refine vj_iald G (x := x2) lkC_25 (by decide) c7 d_F_listCuts_59 ?_
        refine vj_mr (fun hM8 => ?_)
        obtain ⟨r9, M9, e9, hF⟩ := bnd_some hF
        refine vj_callV3 G (ct_R_isFirm (gx_ij G) n (M 25 x2.toNat) (mr_a hM8 lkC_25) e9) lkC_1 clC_7 rfl q_978 cq_R_isFirm rfl (by decide) (by decide) (Nat.le_of_ble_eq_true rfl) d_F_listCuts_60 rfl (fun hr9 => ?_)
        refine vj_if_eq G (tgt := 76) d_F_listCuts_63 (by decide) (ir_b hr9) (fun c10 => ?_) (fun c10 => ?_)
        · rw [if_pos c10] at hF
          exact wk_F_listCuts_76 G0 n k18 hk18 x1 x2 hx1 hx2 _ hF
        · rw [if_neg c10] at hF
          refine vj_aload_n G (p9 := 0) d_F_listCuts_66 rfl rfl ?_
          refine gfC_F_26 G d_F_listCuts_67 ?_
          refine vj_iload_n G (p9 := 1) d_F_listCuts_70 rfl rfl ?_
          refine vj_iload_n G (p9 := 2) d_F_listCuts_71 rfl rfl ?_
          obtain ⟨c11, hF⟩ := ck_some hF
          refine vj_iast G (x := x1) lkC_60 (by decide) (by decide) (by decide) c11 hx2 d_F_listCuts_72 ?_
          refine vj_iinc G (p9 := 1) (n := 1) (lv2 := [(1, .int (i32 (w32 (x1 + 1)))), (0, .ref (wa w 5)), (2, .int (i32 x2))]) d_F_listCuts_73 rfl (by decide) rfl ?_
          refine vj_sub [1, 0, 2] rfl ?_
          exact wk_F_listCuts_76 G0 n k18 hk18 (w32 (x1 + 1)) x2 (ir_w _) hx2 _ hF
set_option maxHeartbeats 4000000 in
set_option maxRecDepth 100000 in
theorem wl_F_listCuts_18 {w : Wd} {X : Cx} {r : Int} {M9 : Mm} (G0 : Gx LC w X "WhoRules$Flow" b_F_listCuts 3 2 45 (some .int)) (n : Nat) : ∀ (f : Nat) (x1 x2 : Int) (hx1 : inR x1) (hx2 : inR x2) (M : Mm), lp_F_listCuts_18 n f x1 x2 M = some (r, M9) → VJ LC w X 3 1 r M9 M [(0, .ref (wa w 5)), (1, .int (i32 x1)), (2, .int (i32 x2))] [] 18 := by
  intro f
  induction f with
  | zero => intro x1 x2 hx1 hx2 M hF; cases hF
  | succ f ih => intro x1 x2 hx1 hx2 M hF; exact wk_F_listCuts_18 G0 n (lp_F_listCuts_18 n f) ih x1 x2 hx1 hx2 M hF
set_option maxHeartbeats 4000000 in
set_option maxRecDepth 100000 in
theorem ct_F_listCuts {w : Wd} (hij : ij LC w) (n : Nat) {M : Mm} {r : Int} {M9 : Mm} (hF : f_F_listCuts n  M = some (r, M9)) : Ct LC w y_F_listCuts b_F_listCuts 3 (some .int) 2 45 1 [.ref (wa w 5)] M r M9 := by
  refine Ct.of hij KstC (by decide +kernel) (Nat.le_of_ble_eq_true rfl) (fun X G0 => ?_)
  have G := G0.1
  show VJ LC w X 3 1 r M9 M [(0, .ref (wa w 5))] [] 0
  unfold f_F_listCuts at hF
  refine vj_aload_n G (p9 := 0) d_F_listCuts_0 rfl rfl ?_
  refine gfC_F_37 G d_F_listCuts_1 ?_
  refine vj_aload_n G (p9 := 0) d_F_listCuts_4 rfl rfl ?_
  refine gfC_F_37 G d_F_listCuts_5 ?_
  refine gfC_F_41 G d_F_listCuts_8 ?_
  refine vj_mr (fun hM1 => ?_)
  obtain ⟨r2, M2, e2, hF⟩ := bnd_some hF
  refine vj_callV0 G (ct_R_lookAt (gx_ij G) n (M 1 0) (mr_o hM1 lkC_1 flC_7_0) e2) lkC_1 clC_7 rfl q_968 cq_R_lookAt rfl (by decide) (by decide) (Nat.le_of_ble_eq_true rfl) d_F_listCuts_11 rfl (fun hr2 => ?_)
  refine vj_iconst G (v := 0) d_F_listCuts_14 rfl ?_
  refine vj_istore_n G (lv2 := [(1, .int (i32 0)), (0, .ref (wa w 5))]) d_F_listCuts_15 rfl (by decide) rfl ?_
  refine vj_iconst G (v := 0) d_F_listCuts_16 rfl ?_
  refine vj_istore_n G (lv2 := [(2, .int (i32 0)), (1, .int (i32 0)), (0, .ref (wa w 5))]) d_F_listCuts_17 rfl (by decide) rfl ?_
  refine vj_sub [2, 1, 0] rfl ?_
  exact wl_F_listCuts_18 G0 n  n 0 0 ic_0 ic_0 _ hF
set_option maxHeartbeats 4000000 in
set_option maxRecDepth 100000 in
theorem wk_F_isRingWithout_145 {w : Wd} {X : Cx} {r : Int} {M9 : Mm} (G0 : Gx LC w X "WhoRules$Flow" b_F_isRingWithout 7 1 23 (some .boolean)) (n : Nat) (k88 : Int → Int → Mm → Rr) (hk88 : ∀ (x3 x4 : Int) (hx3 : inR x3) (hx4 : inR x4) (M : Mm), k88 x3 x4 M = some (r, M9) → VJ LC w X 7 3 r M9 M [(0, .ref (wa w 5)), (3, .int (i32 x3)), (4, .int (i32 x4))] [] 88) (k98 : Int → Int → Int → Mm → Rr) (hk98 : ∀ (x3 x4 x5 : Int) (hx3 : inR x3) (hx4 : inR x4) (hx5 : inR x5) (M : Mm), k98 x3 x4 x5 M = some (r, M9) → VJ LC w X 7 3 r M9 M [(0, .ref (wa w 5)), (3, .int (i32 x3)), (4, .int (i32 x4)), (5, .int (i32 x5))] [] 98) (x4 x5 s0 s1 : Int) (hx4 : inR x4) (hx5 : inR x5) (hs0 : inR s0) (hs1 : inR s1) (M : Mm) (hF : f_F_isRingWithout_145 n k88 k98 x4 x5 s0 s1 M = some (r, M9)) : VJ LC w X 7 3 r M9 M [(0, .ref (wa w 5)), (4, .int (i32 x4)), (5, .int (i32 x5))] [.int (i32 s1), .int (i32 s0)] 145 := by
  have G := G0.1
  unfold f_F_isRingWithout_145 at hF
  refine vj_iand G d_F_isRingWithout_145 ?_
  refine vj_istore_n G (lv2 := [(3, .int (i32 (ian s0 s1))), (0, .ref (wa w 5)), (4, .int (i32 x4)), (5, .int (i32 x5))]) d_F_isRingWithout_146 rfl (by decide) rfl ?_
  refine vj_iinc G (p9 := 3) (n := 1) (lv2 := [(5, .int (i32 (w32 (x5 + 1)))), (3, .int (i32 (ian s0 s1))), (0, .ref (wa w 5)), (4, .int (i32 x4))]) d_F_isRingWithout_147 rfl (by decide) rfl ?_
  refine vj_goto G (tgt := 98) d_F_isRingWithout_150 (by decide) ?_
  refine vj_sub [2, 1, 3, 0] rfl ?_
  exact hk98 (ian s0 s1) x4 (w32 (x5 + 1)) (ir_an _ _) hx4 (ir_w _) _ hF
set_option maxHeartbeats 4000000 in
set_option maxRecDepth 100000 in
theorem wk_F_isRingWithout_98 {w : Wd} {X : Cx} {r : Int} {M9 : Mm} (G0 : Gx LC w X "WhoRules$Flow" b_F_isRingWithout 7 1 23 (some .boolean)) (n : Nat) (k88 : Int → Int → Mm → Rr) (hk88 : ∀ (x3 x4 : Int) (hx3 : inR x3) (hx4 : inR x4) (M : Mm), k88 x3 x4 M = some (r, M9) → VJ LC w X 7 3 r M9 M [(0, .ref (wa w 5)), (3, .int (i32 x3)), (4, .int (i32 x4))] [] 88) (k98 : Int → Int → Int → Mm → Rr) (hk98 : ∀ (x3 x4 x5 : Int) (hx3 : inR x3) (hx4 : inR x4) (hx5 : inR x5) (M : Mm), k98 x3 x4 x5 M = some (r, M9) → VJ LC w X 7 3 r M9 M [(0, .ref (wa w 5)), (3, .int (i32 x3)), (4, .int (i32 x4)), (5, .int (i32 x5))] [] 98) (x3 x4 x5 : Int) (hx3 : inR x3) (hx4 : inR x4) (hx5 : inR x5) (M : Mm) (hF : f_F_isRingWithout_98 n k88 k98 x3 x4 x5 M = some (r, M9)) : VJ LC w X 7 3 r M9 M [(0, .ref (wa w 5)), (3, .int (i32 x3)), (4, .int (i32 x4)), (5, .int (i32 x5))] [] 98 := by
  have G := G0.1
  unfold f_F_isRingWithout_98 at hF
  refine vj_iload G (p9 := 3) d_F_isRingWithout_98 rfl ?_
  refine vj_aload_n G (p9 := 0) d_F_isRingWithout_100 rfl rfl ?_
  refine gfC_F_37 G d_F_isRingWithout_101 ?_
  refine gfC_F_51 G d_F_isRingWithout_104 ?_
  refine vj_mr (fun hM1 => ?_)
  refine vj_icmp_ge G (tgt := 153) d_F_isRingWithout_107 (by decide) hx5 (mr_o hM1 lkC_1 flC_7_2) (fun c2 => ?_) (fun c2 => ?_)
  · rw [if_pos c2] at hF
    refine vj_iinc G (p9 := 2) (n := 1) (lv2 := [(4, .int (i32 (w32 (x4 + 1)))), (0, .ref (wa w 5)), (3, .int (i32 x3)), (5, .int (i32 x5))]) d_F_isRingWithout_153 rfl (by decide) rfl ?_
    refine vj_goto G (tgt := 88) d_F_isRingWithout_156 (by decide) ?_
    refine vj_sub [1, 2, 0] rfl ?_
    exact hk88 x3 (w32 (x4 + 1)) hx3 (ir_w _) _ hF
  · rw [if_neg c2] at hF
    refine vj_aload_n G (p9 := 0) d_F_isRingWithout_110 rfl rfl ?_
    refine gfC_F_37 G d_F_isRingWithout_111 ?_
    refine gfC_F_54 G d_F_isRingWithout_114 ?_
    refine vj_iload G (p9 := 3) d_F_isRingWithout_117 rfl ?_
    obtain ⟨c3, hF⟩ := ck_some hF
    refine vj_iald G (x := x5) lkC_19 (by decide) c3 d_F_isRingWithout_119 ?_
    refine vj_mr (fun hM4 => ?_)
    refine vj_istore G (lv2 := [(6, .int (i32 (M 19 x5.toNat))), (0, .ref (wa w 5)), (3, .int (i32 x3)), (4, .int (i32 x4)), (5, .int (i32 x5))]) d_F_isRingWithout_120 (by decide) rfl ?_
    refine vj_iload_n G (p9 := 2) d_F_isRingWithout_122 rfl rfl ?_
    refine vj_aload_n G (p9 := 1) d_F_isRingWithout_123 rfl rfl ?_
    refine gfC_F_20 G d_F_isRingWithout_124 ?_
    refine vj_iload G (p9 := 0) d_F_isRingWithout_127 rfl ?_
    obtain ⟨c5, hF⟩ := ck_some hF
    refine vj_iald G (x := (M 19 x5.toNat)) lkC_58 (by decide) c5 d_F_isRingWithout_129 ?_
    refine vj_iload_n G (p9 := 2) d_F_isRingWithout_130 rfl rfl ?_
    refine vj_iand G d_F_isRingWithout_131 ?_
    refine vj_if_ne G (tgt := 144) d_F_isRingWithout_132 (by decide) (ir_an _ _) (fun c6 => ?_) (fun c6 => ?_)
    · rw [if_pos c6] at hF
      refine vj_iconst G (v := (-1)) d_F_isRingWithout_144 rfl ?_
      refine vj_sub [1, 3, 4] rfl ?_
      exact wk_F_isRingWithout_145 G0 n k88 hk88 k98 hk98 x4 x5 x3 (-1) hx4 hx5 hx3 ic_m1 _ hF
    · rw [if_neg c6] at hF
      refine vj_iconst G (v := 1) d_F_isRingWithout_135 rfl ?_
      refine vj_iload G (p9 := 0) d_F_isRingWithout_136 rfl ?_
      refine vj_ishl G d_F_isRingWithout_138 ?_
      refine vj_iconst G (v := (-1)) d_F_isRingWithout_139 rfl ?_
      refine vj_ixor G d_F_isRingWithout_140 ?_
      refine vj_goto G (tgt := 145) d_F_isRingWithout_141 (by decide) ?_
      refine vj_sub [1, 3, 4] rfl ?_
      exact wk_F_isRingWithout_145 G0 n k88 hk88 k98 hk98 x4 x5 x3 (ixo (ish 1 (M 19 x5.toNat)) (-1)) hx4 hx5 hx3 (ir_xo _ _) _ hF
set_option maxHeartbeats 4000000 in
set_option maxRecDepth 100000 in
theorem wl_F_isRingWithout_98 {w : Wd} {X : Cx} {r : Int} {M9 : Mm} (G0 : Gx LC w X "WhoRules$Flow" b_F_isRingWithout 7 1 23 (some .boolean)) (n : Nat) (k88 : Int → Int → Mm → Rr) (hk88 : ∀ (x3 x4 : Int) (hx3 : inR x3) (hx4 : inR x4) (M : Mm), k88 x3 x4 M = some (r, M9) → VJ LC w X 7 3 r M9 M [(0, .ref (wa w 5)), (3, .int (i32 x3)), (4, .int (i32 x4))] [] 88) : ∀ (f : Nat) (x3 x4 x5 : Int) (hx3 : inR x3) (hx4 : inR x4) (hx5 : inR x5) (M : Mm), lp_F_isRingWithout_98 n k88 f x3 x4 x5 M = some (r, M9) → VJ LC w X 7 3 r M9 M [(0, .ref (wa w 5)), (3, .int (i32 x3)), (4, .int (i32 x4)), (5, .int (i32 x5))] [] 98 := by
  intro f
  induction f with
  | zero => intro x3 x4 x5 hx3 hx4 hx5 M hF; cases hF
  | succ f ih => intro x3 x4 x5 hx3 hx4 hx5 M hF; exact wk_F_isRingWithout_98 G0 n k88 hk88 (lp_F_isRingWithout_98 n k88 f) ih x3 x4 x5 hx3 hx4 hx5 M hF
set_option maxHeartbeats 4000000 in
set_option maxRecDepth 100000 in
theorem wk_F_isRingWithout_88 {w : Wd} {X : Cx} {r : Int} {M9 : Mm} (G0 : Gx LC w X "WhoRules$Flow" b_F_isRingWithout 7 1 23 (some .boolean)) (n : Nat) (k88 : Int → Int → Mm → Rr) (hk88 : ∀ (x3 x4 : Int) (hx3 : inR x3) (hx4 : inR x4) (M : Mm), k88 x3 x4 M = some (r, M9) → VJ LC w X 7 3 r M9 M [(0, .ref (wa w 5)), (3, .int (i32 x3)), (4, .int (i32 x4))] [] 88) (x3 x4 : Int) (hx3 : inR x3) (hx4 : inR x4) (M : Mm) (hF : f_F_isRingWithout_88 n k88 x3 x4 M = some (r, M9)) : VJ LC w X 7 3 r M9 M [(0, .ref (wa w 5)), (3, .int (i32 x3)), (4, .int (i32 x4))] [] 88 := by
  have G := G0.1
  unfold f_F_isRingWithout_88 at hF
  refine vj_iload G (p9 := 2) d_F_isRingWithout_88 rfl ?_
  refine vj_bipush G (v := 7) d_F_isRingWithout_90 rfl ?_
  refine vj_icmp_ge G (tgt := 159) d_F_isRingWithout_92 (by decide) hx4 ic_7 (fun c1 => ?_) (fun c1 => ?_)
  · rw [if_pos c1] at hF
    refine vj_iload_n G (p9 := 1) d_F_isRingWithout_159 rfl rfl ?_
    refine vj_if_eq G (tgt := 167) d_F_isRingWithout_160 (by decide) hx3 (fun c2 => ?_) (fun c2 => ?_)
    · rw [if_pos c2] at hF
      refine vj_iconst G (v := 0) d_F_isRingWithout_167 rfl ?_
      cases hF
      exact vj_zret G0 (Or.inl rfl) d_F_isRingWithout_168
    · rw [if_neg c2] at hF
      refine vj_iconst G (v := 1) d_F_isRingWithout_163 rfl ?_
      refine vj_goto G (tgt := 168) d_F_isRingWithout_164 (by decide) ?_
      cases hF
      exact vj_zret G0 (Or.inr rfl) d_F_isRingWithout_168
  · rw [if_neg c1] at hF
    refine vj_iconst G (v := 0) d_F_isRingWithout_95 rfl ?_
    refine vj_istore G (lv2 := [(5, .int (i32 0)), (0, .ref (wa w 5)), (3, .int (i32 x3)), (4, .int (i32 x4))]) d_F_isRingWithout_96 (by decide) rfl ?_
    refine vj_sub [1, 2, 3, 0] rfl ?_
    exact wl_F_isRingWithout_98 G0 n k88 hk88 n x3 x4 0 hx3 hx4 ic_0 _ hF
set_option maxHeartbeats 4000000 in
set_option maxRecDepth 100000 in
theorem wl_F_isRingWithout_88 {w : Wd} {X : Cx} {r : Int} {M9 : Mm} (G0 : Gx LC w X "WhoRules$Flow" b_F_isRingWithout 7 1 23 (some .boolean)) (n : Nat) : ∀ (f : Nat) (x3 x4 : Int) (hx3 : inR x3) (hx4 : inR x4) (M : Mm), lp_F_isRingWithout_88 n f x3 x4 M = some (r, M9) → VJ LC w X 7 3 r M9 M [(0, .ref (wa w 5)), (3, .int (i32 x3)), (4, .int (i32 x4))] [] 88 := by
  intro f
  induction f with
  | zero => intro x3 x4 hx3 hx4 M hF; cases hF
  | succ f ih => intro x3 x4 hx3 hx4 M hF; exact wk_F_isRingWithout_88 G0 n (lp_F_isRingWithout_88 n f) ih x3 x4 hx3 hx4 M hF
set_option maxHeartbeats 4000000 in
set_option maxRecDepth 100000 in
theorem wk_F_isRingWithout_79 {w : Wd} {X : Cx} {r : Int} {M9 : Mm} (G0 : Gx LC w X "WhoRules$Flow" b_F_isRingWithout 7 1 23 (some .boolean)) (n : Nat) (k13 : Int → Int → Int → Int → Mm → Rr) (hk13 : ∀ (x1 x2 x3 x4 : Int) (hx1 : inR x1) (hx2 : inR x2) (hx3 : inR x3) (hx4 : inR x4) (M : Mm), k13 x1 x2 x3 x4 M = some (r, M9) → VJ LC w X 7 3 r M9 M [(0, .ref (wa w 5)), (1, .int (i32 x1)), (2, .int (i32 x2)), (3, .int (i32 x3)), (4, .int (i32 x4))] [] 13) (x1 x2 x3 x4 : Int) (hx1 : inR x1) (hx2 : inR x2) (hx3 : inR x3) (hx4 : inR x4) (M : Mm) (hF : f_F_isRingWithout_79 n k13 x1 x2 x3 x4 M = some (r, M9)) : VJ LC w X 7 3 r M9 M [(0, .ref (wa w 5)), (1, .int (i32 x1)), (2, .int (i32 x2)), (3, .int (i32 x3)), (4, .int (i32 x4))] [] 79 := by
  have G := G0.1
  unfold f_F_isRingWithout_79 at hF
  refine vj_iinc G (p9 := 4) (n := 1) (lv2 := [(4, .int (i32 (w32 (x4 + 1)))), (0, .ref (wa w 5)), (1, .int (i32 x1)), (2, .int (i32 x2)), (3, .int (i32 x3))]) d_F_isRingWithout_79 rfl (by decide) rfl ?_
  refine vj_goto G (tgt := 13) d_F_isRingWithout_82 (by decide) ?_
  refine vj_sub [1, 2, 3, 4, 0] rfl ?_
  exact hk13 x1 x2 x3 (w32 (x4 + 1)) hx1 hx2 hx3 (ir_w _) _ hF
set_option maxHeartbeats 4000000 in
set_option maxRecDepth 100000 in
theorem wk_F_isRingWithout_13 {w : Wd} {X : Cx} {r : Int} {M9 : Mm} (G0 : Gx LC w X "WhoRules$Flow" b_F_isRingWithout 7 1 23 (some .boolean)) (n : Nat) (k13 : Int → Int → Int → Int → Mm → Rr) (hk13 : ∀ (x1 x2 x3 x4 : Int) (hx1 : inR x1) (hx2 : inR x2) (hx3 : inR x3) (hx4 : inR x4) (M : Mm), k13 x1 x2 x3 x4 M = some (r, M9) → VJ LC w X 7 3 r M9 M [(0, .ref (wa w 5)), (1, .int (i32 x1)), (2, .int (i32 x2)), (3, .int (i32 x3)), (4, .int (i32 x4))] [] 13) (x1 x2 x3 x4 : Int) (hx1 : inR x1) (hx2 : inR x2) (hx3 : inR x3) (hx4 : inR x4) (M : Mm) (hF : f_F_isRingWithout_13 n k13 x1 x2 x3 x4 M = some (r, M9)) : VJ LC w X 7 3 r M9 M [(0, .ref (wa w 5)), (1, .int (i32 x1)), (2, .int (i32 x2)), (3, .int (i32 x3)), (4, .int (i32 x4))] [] 13 := by
  have G := G0.1
  unfold f_F_isRingWithout_13 at hF
  refine vj_iload G (p9 := 4) d_F_isRingWithout_13 rfl ?_
  refine vj_iload_n G (p9 := 2) d_F_isRingWithout_15 rfl rfl ?_
  refine vj_icmp_ge G (tgt := 85) d_F_isRingWithout_16 (by decide) hx4 hx2 (fun c1 => ?_) (fun c1 => ?_)
  · rw [if_pos c1] at hF
    refine vj_iconst G (v := 0) d_F_isRingWithout_85 rfl ?_
    refine vj_istore G (lv2 := [(4, .int (i32 0)), (0, .ref (wa w 5)), (1, .int (i32 x1)), (2, .int (i32 x2)), (3, .int (i32 x3))]) d_F_isRingWithout_86 (by decide) rfl ?_
    refine vj_sub [1, 4, 0] rfl ?_
    exact wl_F_isRingWithout_88 G0 n  n x3 0 hx3 ic_0 _ hF
  · rw [if_neg c1] at hF
    refine vj_iload_n G (p9 := 1) d_F_isRingWithout_19 rfl rfl ?_
    refine vj_iload G (p9 := 4) d_F_isRingWithout_20 rfl ?_
    refine vj_ishr G d_F_isRingWithout_22 ?_
    refine vj_iconst G (v := 1) d_F_isRingWithout_23 rfl ?_
    refine vj_iand G d_F_isRingWithout_24 ?_
    refine vj_if_ne G (tgt := 79) d_F_isRingWithout_25 (by decide) (ir_an _ _) (fun c2 => ?_) (fun c2 => ?_)
    · rw [if_pos c2] at hF
      exact wk_F_isRingWithout_79 G0 n k13 hk13 x1 x2 x3 x4 hx1 hx2 hx3 hx4 _ hF
    · rw [if_neg c2] at hF
      refine vj_aload_n G (p9 := 0) d_F_isRingWithout_28 rfl rfl ?_
      refine gfC_F_37 G d_F_isRingWithout_29 ?_
      refine gfC_F_66 G d_F_isRingWithout_32 ?_
      refine vj_aload_n G (p9 := 0) d_F_isRingWithout_35 rfl rfl ?_
      refine gfC_F_26 G d_F_isRingWithout_36 ?_
      refine vj_iload G (p9 := 4) d_F_isRingWithout_39 rfl ?_
      obtain ⟨c3, hF⟩ := ck_some hF
      refine vj_iald G (x := x4) lkC_60 (by decide) c3 d_F_isRingWithout_41 ?_
      refine vj_mr (fun hM4 => ?_)
      obtain ⟨c5, hF⟩ := ck_some hF
      refine vj_iald G (x := (M 60 x4.toNat)) lkC_25 (by decide) c5 d_F_isRingWithout_42 ?_
      refine vj_istore G (lv2 := [(5, .int (i32 (M 25 (M 60 x4.toNat).toNat))), (0, .ref (wa w 5)), (1, .int (i32 x1)), (2, .int (i32 x2)), (3, .int (i32 x3)), (4, .int (i32 x4))]) d_F_isRingWithout_43 (by decide) rfl ?_
      refine vj_aload_n G (p9 := 1) d_F_isRingWithout_45 rfl rfl ?_
      refine gfC_F_20 G d_F_isRingWithout_46 ?_
      refine vj_iload G (p9 := 0) d_F_isRingWithout_49 rfl ?_
      refine vj_dup2_11 G d_F_isRingWithout_51 rfl rfl ?_
      obtain ⟨c6, hF⟩ := ck_some hF
      refine vj_iald G (x := (M 25 (M 60 x4.toNat).toNat)) lkC_58 (by decide) c6 d_F_isRingWithout_52 ?_
      refine vj_iconst G (v := 1) d_F_isRingWithout_53 rfl ?_
      refine vj_aload_n G (p9 := 1) d_F_isRingWithout_54 rfl rfl ?_
      refine gfC_F_37 G d_F_isRingWithout_55 ?_
      refine gfC_F_69 G d_F_isRingWithout_58 ?_
      refine vj_aload_n G (p9 := 1) d_F_isRingWithout_61 rfl rfl ?_
      refine gfC_F_26 G d_F_isRingWithout_62 ?_
      refine vj_iload G (p9 := 5) d_F_isRingWithout_65 rfl ?_
      obtain ⟨c7, hF⟩ := ck_some hF
      refine vj_iald G (x := x4) lkC_60 (by decide) c7 d_F_isRingWithout_67 ?_
      obtain ⟨c8, hF⟩ := ck_some hF
      refine vj_iald G (x := (M 60 x4.toNat)) lkC_21 (by decide) c8 d_F_isRingWithout_68 ?_
      refine vj_ishl G d_F_isRingWithout_69 ?_
      refine vj_ior G d_F_isRingWithout_70 ?_
      obtain ⟨c9, hF⟩ := ck_some hF
      refine vj_iast G (x := (M 25 (M 60 x4.toNat).toNat)) lkC_58 (by decide) (by decide) (by decide) c9 (ir_or _ _) d_F_isRingWithout_71 ?_
      refine vj_iload_n G (p9 := 4) d_F_isRingWithout_72 rfl rfl ?_
      refine vj_iconst G (v := 1) d_F_isRingWithout_73 rfl ?_
      refine vj_iload G (p9 := 0) d_F_isRingWithout_74 rfl ?_
      refine vj_ishl G d_F_isRingWithout_76 ?_
      refine vj_ior G d_F_isRingWithout_77 ?_
      refine vj_istore_n G (lv2 := [(3, .int (i32 (ior x3 (ish 1 (M 25 (M 60 x4.toNat).toNat))))), (5, .int (i32 (M 25 (M 60 x4.toNat).toNat))), (0, .ref (wa w 5)), (1, .int (i32 x1)), (2, .int (i32 x2)), (4, .int (i32 x4))]) d_F_isRingWithout_78 rfl (by decide) rfl ?_
      refine vj_sub [2, 3, 4, 0, 5] rfl ?_
      exact wk_F_isRingWithout_79 G0 n k13 hk13 x1 x2 (ior x3 (ish 1 (M 25 (M 60 x4.toNat).toNat))) x4 hx1 hx2 (ir_or _ _) hx4 _ hF
set_option maxHeartbeats 4000000 in
set_option maxRecDepth 100000 in
theorem wl_F_isRingWithout_13 {w : Wd} {X : Cx} {r : Int} {M9 : Mm} (G0 : Gx LC w X "WhoRules$Flow" b_F_isRingWithout 7 1 23 (some .boolean)) (n : Nat) : ∀ (f : Nat) (x1 x2 x3 x4 : Int) (hx1 : inR x1) (hx2 : inR x2) (hx3 : inR x3) (hx4 : inR x4) (M : Mm), lp_F_isRingWithout_13 n f x1 x2 x3 x4 M = some (r, M9) → VJ LC w X 7 3 r M9 M [(0, .ref (wa w 5)), (1, .int (i32 x1)), (2, .int (i32 x2)), (3, .int (i32 x3)), (4, .int (i32 x4))] [] 13 := by
  intro f
  induction f with
  | zero => intro x1 x2 x3 x4 hx1 hx2 hx3 hx4 M hF; cases hF
  | succ f ih => intro x1 x2 x3 x4 hx1 hx2 hx3 hx4 M hF; exact wk_F_isRingWithout_13 G0 n (lp_F_isRingWithout_13 n f) ih x1 x2 x3 x4 hx1 hx2 hx3 hx4 M hF
set_option maxHeartbeats 4000000 in
set_option maxRecDepth 100000 in
theorem ct_F_isRingWithout {w : Wd} (hij : ij LC w) (n : Nat) (x1 x2 : Int) (hx1 : inR x1) (hx2 : inR x2) {M : Mm} {r : Int} {M9 : Mm} (hF : f_F_isRingWithout n x1 x2 M = some (r, M9)) : Ct LC w y_F_isRingWithout b_F_isRingWithout 7 (some .boolean) 1 23 3 [.ref (wa w 5), .int (i32 x1), .int (i32 x2)] M r M9 := by
  refine Ct.of hij KstC (by decide +kernel) (Nat.le_of_ble_eq_true rfl) (fun X G0 => ?_)
  have G := G0.1
  show VJ LC w X 7 3 r M9 M [(0, .ref (wa w 5)), (1, .int (i32 x1)), (2, .int (i32 x2))] [] 0
  unfold f_F_isRingWithout at hF
  refine vj_aload_n G (p9 := 0) d_F_isRingWithout_0 rfl rfl ?_
  refine gfC_F_20 G d_F_isRingWithout_1 ?_
  refine vj_iconst G (v := 0) d_F_isRingWithout_4 rfl ?_
  refine vj_fillI G lkC_58 (by decide) (by decide) (by decide) q_969 ic_0 (by decide) (by decide) (by decide) d_F_isRingWithout_5 ?_
  refine vj_iconst G (v := 0) d_F_isRingWithout_8 rfl ?_
  refine vj_istore_n G (lv2 := [(3, .int (i32 0)), (0, .ref (wa w 5)), (1, .int (i32 x1)), (2, .int (i32 x2))]) d_F_isRingWithout_9 rfl (by decide) rfl ?_
  refine vj_iconst G (v := 0) d_F_isRingWithout_10 rfl ?_
  refine vj_istore G (lv2 := [(4, .int (i32 0)), (3, .int (i32 0)), (0, .ref (wa w 5)), (1, .int (i32 x1)), (2, .int (i32 x2))]) d_F_isRingWithout_11 (by decide) rfl ?_
  refine vj_sub [2, 3, 4, 1, 0] rfl ?_
  exact wl_F_isRingWithout_13 G0 n  n x1 x2 0 0 hx1 hx2 ic_0 ic_0 _ hF
set_option maxHeartbeats 4000000 in
set_option maxRecDepth 100000 in
theorem wk_F_fewestToBreak_92 {w : Wd} {X : Cx} {r : Int} {M9 : Mm} (G0 : Gx LC w X "WhoRules$Flow" b_F_fewestToBreak 7 3 67 (some .long)) (n : Nat) (k61 : Int → Int → Int → Int → Mm → Rr) (hk61 : ∀ (x1 x2 x4 x6 : Int) (hx1 : inR x1) (hx2 : inR x2) (hx4 : in64 x4) (hx6 : inR x6) (M : Mm), k61 x1 x2 x4 x6 M = some (r, M9) → VJ LC w X 7 2 r M9 M [(0, .ref (wa w 5)), (1, .int (i32 x1)), (2, .int (i32 x2)), (4, .long (i64 x4)), (6, .int (i32 x6))] [] 61) (x1 x2 x6 s0 s1 : Int) (hx1 : inR x1) (hx2 : inR x2) (hx6 : inR x6) (hs0 : in64 s0) (hs1 : in64 s1) (M : Mm) (hF : f_F_fewestToBreak_92 n k61 x1 x2 x6 s0 s1 M = some (r, M9)) : VJ LC w X 7 2 r M9 M [(0, .ref (wa w 5)), (1, .int (i32 x1)), (2, .int (i32 x2)), (6, .int (i32 x6))] [.long (i64 s1), .long (i64 s0)] 92 := by
  have G := G0.1
  unfold f_F_fewestToBreak_92 at hF
  refine vj_lor G d_F_fewestToBreak_92 ?_
  refine vj_lstore G (lv2 := [(4, .long (i64 (lor s0 s1))), (0, .ref (wa w 5)), (1, .int (i32 x1)), (2, .int (i32 x2)), (6, .int (i32 x6))]) d_F_fewestToBreak_93 (by decide) rfl ?_
  refine vj_iinc G (p9 := 4) (n := 1) (lv2 := [(6, .int (i32 (w32 (x6 + 1)))), (4, .long (i64 (lor s0 s1))), (0, .ref (wa w 5)), (1, .int (i32 x1)), (2, .int (i32 x2))]) d_F_fewestToBreak_95 rfl (by decide) rfl ?_
  refine vj_goto G (tgt := 61) d_F_fewestToBreak_98 (by decide) ?_
  refine vj_sub [2, 3, 4, 1, 0] rfl ?_
  exact hk61 x1 x2 (lor s0 s1) (w32 (x6 + 1)) hx1 hx2 (lr_or _ _) (ir_w _) _ hF
set_option maxHeartbeats 4000000 in
set_option maxRecDepth 100000 in
theorem wk_F_fewestToBreak_61 {w : Wd} {X : Cx} {r : Int} {M9 : Mm} (G0 : Gx LC w X "WhoRules$Flow" b_F_fewestToBreak 7 3 67 (some .long)) (n : Nat) (k61 : Int → Int → Int → Int → Mm → Rr) (hk61 : ∀ (x1 x2 x4 x6 : Int) (hx1 : inR x1) (hx2 : inR x2) (hx4 : in64 x4) (hx6 : inR x6) (M : Mm), k61 x1 x2 x4 x6 M = some (r, M9) → VJ LC w X 7 2 r M9 M [(0, .ref (wa w 5)), (1, .int (i32 x1)), (2, .int (i32 x2)), (4, .long (i64 x4)), (6, .int (i32 x6))] [] 61) (x1 x2 x4 x6 : Int) (hx1 : inR x1) (hx2 : inR x2) (hx4 : in64 x4) (hx6 : inR x6) (M : Mm) (hF : f_F_fewestToBreak_61 n k61 x1 x2 x4 x6 M = some (r, M9)) : VJ LC w X 7 2 r M9 M [(0, .ref (wa w 5)), (1, .int (i32 x1)), (2, .int (i32 x2)), (4, .long (i64 x4)), (6, .int (i32 x6))] [] 61 := by
  have G := G0.1
  unfold f_F_fewestToBreak_61 at hF
  refine vj_iload G (p9 := 4) d_F_fewestToBreak_61 rfl ?_
  refine vj_iload_n G (p9 := 1) d_F_fewestToBreak_63 rfl rfl ?_
  refine vj_icmp_ge G (tgt := 101) d_F_fewestToBreak_64 (by decide) hx6 hx1 (fun c1 => ?_) (fun c1 => ?_)
  · rw [if_pos c1] at hF
    refine vj_lload G (p9 := 3) d_F_fewestToBreak_101 rfl ?_
    cases hF
    exact vj_lret G0 hx4 d_F_fewestToBreak_103
  · rw [if_neg c1] at hF
    refine vj_lload G (p9 := 3) d_F_fewestToBreak_67 rfl ?_
    refine vj_iload_n G (p9 := 2) d_F_fewestToBreak_69 rfl rfl ?_
    refine vj_iload G (p9 := 4) d_F_fewestToBreak_70 rfl ?_
    refine vj_ishr G d_F_fewestToBreak_72 ?_
    refine vj_iconst G (v := 1) d_F_fewestToBreak_73 rfl ?_
    refine vj_iand G d_F_fewestToBreak_74 ?_
    refine vj_iconst G (v := 1) d_F_fewestToBreak_75 rfl ?_
    refine vj_icmp_ne G (tgt := 91) d_F_fewestToBreak_76 (by decide) (ir_an _ _) ic_1 (fun c2 => ?_) (fun c2 => ?_)
    · rw [if_pos c2] at hF
      refine vj_lconst G (v := 0) d_F_fewestToBreak_91 rfl ?_
      refine vj_sub [0, 1, 2, 4] rfl ?_
      exact wk_F_fewestToBreak_92 G0 n k61 hk61 x1 x2 x6 x4 0 hx1 hx2 hx6 hx4 (lr_i ic_0) _ hF
    · rw [if_neg c2] at hF
      refine vj_lconst G (v := 1) d_F_fewestToBreak_79 rfl ?_
      refine vj_aload_n G (p9 := 0) d_F_fewestToBreak_80 rfl rfl ?_
      refine gfC_F_26 G d_F_fewestToBreak_81 ?_
      refine vj_iload G (p9 := 4) d_F_fewestToBreak_84 rfl ?_
      obtain ⟨c3, hF⟩ := ck_some hF
      refine vj_iald G (x := x6) lkC_60 (by decide) c3 d_F_fewestToBreak_86 ?_
      refine vj_mr (fun hM4 => ?_)
      refine vj_lshl G d_F_fewestToBreak_87 ?_
      refine vj_goto G (tgt := 92) d_F_fewestToBreak_88 (by decide) ?_
      refine vj_sub [0, 1, 2, 4] rfl ?_
      exact wk_F_fewestToBreak_92 G0 n k61 hk61 x1 x2 x6 x4 (lsh 1 (M 60 x6.toNat)) hx1 hx2 hx6 hx4 (lr_sh _ _) _ hF
set_option maxHeartbeats 4000000 in
set_option maxRecDepth 100000 in
theorem wl_F_fewestToBreak_61 {w : Wd} {X : Cx} {r : Int} {M9 : Mm} (G0 : Gx LC w X "WhoRules$Flow" b_F_fewestToBreak 7 3 67 (some .long)) (n : Nat) : ∀ (f : Nat) (x1 x2 x4 x6 : Int) (hx1 : inR x1) (hx2 : inR x2) (hx4 : in64 x4) (hx6 : inR x6) (M : Mm), lp_F_fewestToBreak_61 n f x1 x2 x4 x6 M = some (r, M9) → VJ LC w X 7 2 r M9 M [(0, .ref (wa w 5)), (1, .int (i32 x1)), (2, .int (i32 x2)), (4, .long (i64 x4)), (6, .int (i32 x6))] [] 61 := by
  intro f
  induction f with
  | zero => intro x1 x2 x4 x6 hx1 hx2 hx4 hx6 M hF; cases hF
  | succ f ih => intro x1 x2 x4 x6 hx1 hx2 hx4 hx6 M hF; exact wk_F_fewestToBreak_61 G0 n (lp_F_fewestToBreak_61 n f) ih x1 x2 x4 x6 hx1 hx2 hx4 hx6 M hF
set_option maxHeartbeats 4000000 in
set_option maxRecDepth 100000 in
theorem wk_F_fewestToBreak_49 {w : Wd} {X : Cx} {r : Int} {M9 : Mm} (G0 : Gx LC w X "WhoRules$Flow" b_F_fewestToBreak 7 3 67 (some .long)) (n : Nat) (k13 : Int → Int → Int → Int → Mm → Rr) (hk13 : ∀ (x1 x2 x3 x4 : Int) (hx1 : inR x1) (hx2 : inR x2) (hx3 : inR x3) (hx4 : inR x4) (M : Mm), k13 x1 x2 x3 x4 M = some (r, M9) → VJ LC w X 7 2 r M9 M [(0, .ref (wa w 5)), (1, .int (i32 x1)), (2, .int (i32 x2)), (3, .int (i32 x3)), (4, .int (i32 x4))] [] 13) (x1 x2 x3 x4 : Int) (hx1 : inR x1) (hx2 : inR x2) (hx3 : inR x3) (hx4 : inR x4) (M : Mm) (hF : f_F_fewestToBreak_49 n k13 x1 x2 x3 x4 M = some (r, M9)) : VJ LC w X 7 2 r M9 M [(0, .ref (wa w 5)), (1, .int (i32 x1)), (2, .int (i32 x2)), (3, .int (i32 x3)), (4, .int (i32 x4))] [] 49 := by
  have G := G0.1
  unfold f_F_fewestToBreak_49 at hF
  refine vj_iinc G (p9 := 4) (n := 1) (lv2 := [(4, .int (i32 (w32 (x4 + 1)))), (0, .ref (wa w 5)), (1, .int (i32 x1)), (2, .int (i32 x2)), (3, .int (i32 x3))]) d_F_fewestToBreak_49 rfl (by decide) rfl ?_
  refine vj_goto G (tgt := 13) d_F_fewestToBreak_52 (by decide) ?_
  refine vj_sub [1, 2, 3, 4, 0] rfl ?_
  exact hk13 x1 x2 x3 (w32 (x4 + 1)) hx1 hx2 hx3 (ir_w _) _ hF
set_option maxHeartbeats 4000000 in
set_option maxRecDepth 100000 in
theorem wk_F_fewestToBreak_13 {w : Wd} {X : Cx} {r : Int} {M9 : Mm} (G0 : Gx LC w X "WhoRules$Flow" b_F_fewestToBreak 7 3 67 (some .long)) (n : Nat) (k13 : Int → Int → Int → Int → Mm → Rr) (hk13 : ∀ (x1 x2 x3 x4 : Int) (hx1 : inR x1) (hx2 : inR x2) (hx3 : inR x3) (hx4 : inR x4) (M : Mm), k13 x1 x2 x3 x4 M = some (r, M9) → VJ LC w X 7 2 r M9 M [(0, .ref (wa w 5)), (1, .int (i32 x1)), (2, .int (i32 x2)), (3, .int (i32 x3)), (4, .int (i32 x4))] [] 13) (x1 x2 x3 x4 : Int) (hx1 : inR x1) (hx2 : inR x2) (hx3 : inR x3) (hx4 : inR x4) (M : Mm) (hF : f_F_fewestToBreak_13 n k13 x1 x2 x3 x4 M = some (r, M9)) : VJ LC w X 7 2 r M9 M [(0, .ref (wa w 5)), (1, .int (i32 x1)), (2, .int (i32 x2)), (3, .int (i32 x3)), (4, .int (i32 x4))] [] 13 := by
  have G := G0.1
  unfold f_F_fewestToBreak_13 at hF
  refine vj_iload G (p9 := 4) d_F_fewestToBreak_13 rfl ?_
  refine vj_iconst G (v := 1) d_F_fewestToBreak_15 rfl ?_
  refine vj_iload_n G (p9 := 1) d_F_fewestToBreak_16 rfl rfl ?_
  refine vj_ishl G d_F_fewestToBreak_17 ?_
  refine vj_icmp_ge G (tgt := 55) d_F_fewestToBreak_18 (by decide) hx4 (ir_sh _ _) (fun c1 => ?_) (fun c1 => ?_)
  · rw [if_pos c1] at hF
    refine vj_lconst G (v := 0) d_F_fewestToBreak_55 rfl ?_
    refine vj_lstore G (lv2 := [(4, .long (i64 0)), (0, .ref (wa w 5)), (1, .int (i32 x1)), (2, .int (i32 x2)), (3, .int (i32 x3))]) d_F_fewestToBreak_56 (by decide) rfl ?_
    refine vj_iconst G (v := 0) d_F_fewestToBreak_58 rfl ?_
    refine vj_istore G (lv2 := [(6, .int (i32 0)), (4, .long (i64 0)), (0, .ref (wa w 5)), (1, .int (i32 x1)), (2, .int (i32 x2)), (3, .int (i32 x3))]) d_F_fewestToBreak_59 (by decide) rfl ?_
    refine vj_sub [2, 3, 4, 1, 0] rfl ?_
    exact wl_F_fewestToBreak_61 G0 n  n x1 x2 0 0 hx1 hx2 (lr_i ic_0) ic_0 _ hF
  · rw [if_neg c1] at hF
    refine vj_iload G (p9 := 4) d_F_fewestToBreak_21 rfl ?_
    obtain ⟨r2, M2, e2, hF⟩ := bnd_some hF
    refine vj_callS1 G (ct_JI_bitCount (gx_ij G) n x4 hx4 e2) q_1151 cq_JI_bitCount rfl (by decide) (by decide) (Nat.le_of_ble_eq_true rfl) d_F_fewestToBreak_23 rfl (fun hr2 => ?_)
    refine vj_iload_n G (p9 := 3) d_F_fewestToBreak_26 rfl rfl ?_
    refine vj_icmp_ge G (tgt := 49) d_F_fewestToBreak_27 (by decide) hr2 hx3 (fun c3 => ?_) (fun c3 => ?_)
    · rw [if_pos c3] at hF
      exact wk_F_fewestToBreak_49 G0 n k13 hk13 x1 x2 x3 x4 hx1 hx2 hx3 hx4 _ hF
    · rw [if_neg c3] at hF
      refine vj_aload_n G (p9 := 0) d_F_fewestToBreak_30 rfl rfl ?_
      refine vj_iload G (p9 := 4) d_F_fewestToBreak_31 rfl ?_
      refine vj_iload_n G (p9 := 1) d_F_fewestToBreak_33 rfl rfl ?_
      obtain ⟨r4, M4, e4, hF⟩ := bnd_some hF
      refine vj_callV3 G (ct_F_isRingWithout (gx_ij G) n x4 x1 hx4 hx1 e4) lkC_5 clC_11 rfl q_1152 cq_F_isRingWithout rfl (by decide) (by decide) (Nat.le_of_ble_eq_true rfl) d_F_fewestToBreak_34 rfl (fun hr4 => ?_)
      refine vj_if_ne G (tgt := 49) d_F_fewestToBreak_37 (by decide) (ir_b hr4) (fun c5 => ?_) (fun c5 => ?_)
      · rw [if_pos c5] at hF
        exact wk_F_fewestToBreak_49 G0 n k13 hk13 x1 x2 x3 x4 hx1 hx2 hx3 hx4 _ hF
      · rw [if_neg c5] at hF
        refine vj_iload G (p9 := 4) d_F_fewestToBreak_40 rfl ?_
        refine vj_istore_n G (lv2 := [(2, .int (i32 x4)), (0, .ref (wa w 5)), (1, .int (i32 x1)), (3, .int (i32 x3)), (4, .int (i32 x4))]) d_F_fewestToBreak_42 rfl (by decide) rfl ?_
        refine vj_iload G (p9 := 4) d_F_fewestToBreak_43 rfl ?_
        obtain ⟨r6, M6, e6, hF⟩ := bnd_some hF
        refine vj_callS1 G (ct_JI_bitCount (gx_ij G) n x4 hx4 e6) q_1151 cq_JI_bitCount rfl (by decide) (by decide) (Nat.le_of_ble_eq_true rfl) d_F_fewestToBreak_45 rfl (fun hr6 => ?_)
        refine vj_istore_n G (lv2 := [(3, .int (i32 r6)), (2, .int (i32 x4)), (0, .ref (wa w 5)), (1, .int (i32 x1)), (4, .int (i32 x4))]) d_F_fewestToBreak_48 rfl (by decide) rfl ?_
        refine vj_sub [2, 3, 1, 0, 4] rfl ?_
        exact wk_F_fewestToBreak_49 G0 n k13 hk13 x1 x4 r6 x4 hx1 hx4 hr6 hx4 _ hF
set_option maxHeartbeats 4000000 in
set_option maxRecDepth 100000 in
theorem wl_F_fewestToBreak_13 {w : Wd} {X : Cx} {r : Int} {M9 : Mm} (G0 : Gx LC w X "WhoRules$Flow" b_F_fewestToBreak 7 3 67 (some .long)) (n : Nat) : ∀ (f : Nat) (x1 x2 x3 x4 : Int) (hx1 : inR x1) (hx2 : inR x2) (hx3 : inR x3) (hx4 : inR x4) (M : Mm), lp_F_fewestToBreak_13 n f x1 x2 x3 x4 M = some (r, M9) → VJ LC w X 7 2 r M9 M [(0, .ref (wa w 5)), (1, .int (i32 x1)), (2, .int (i32 x2)), (3, .int (i32 x3)), (4, .int (i32 x4))] [] 13 := by
  intro f
  induction f with
  | zero => intro x1 x2 x3 x4 hx1 hx2 hx3 hx4 M hF; cases hF
  | succ f ih => intro x1 x2 x3 x4 hx1 hx2 hx3 hx4 M hF; exact wk_F_fewestToBreak_13 G0 n (lp_F_fewestToBreak_13 n f) ih x1 x2 x3 x4 hx1 hx2 hx3 hx4 M hF
set_option maxHeartbeats 4000000 in
set_option maxRecDepth 100000 in
theorem ct_F_fewestToBreak {w : Wd} (hij : ij LC w) (n : Nat) {M : Mm} {r : Int} {M9 : Mm} (hF : f_F_fewestToBreak n  M = some (r, M9)) : Ct LC w y_F_fewestToBreak b_F_fewestToBreak 7 (some .long) 3 67 2 [.ref (wa w 5)] M r M9 := by
  refine Ct.of hij KstC (by decide +kernel) (Nat.le_of_ble_eq_true rfl) (fun X G0 => ?_)
  have G := G0.1
  show VJ LC w X 7 2 r M9 M [(0, .ref (wa w 5))] [] 0
  unfold f_F_fewestToBreak at hF
  refine vj_aload_n G (p9 := 0) d_F_fewestToBreak_0 rfl rfl ?_
  obtain ⟨r1, M1, e1, hF⟩ := bnd_some hF
  refine vj_callV1 G (ct_F_listCuts (gx_ij G) n   e1) lkC_5 clC_11 rfl q_1147 cq_F_listCuts rfl (by decide) (by decide) (Nat.le_of_ble_eq_true rfl) d_F_fewestToBreak_1 rfl (fun hr1 => ?_)
  refine vj_istore_n G (lv2 := [(1, .int (i32 r1)), (0, .ref (wa w 5))]) d_F_fewestToBreak_4 rfl (by decide) rfl ?_
  refine vj_iconst G (v := 0) d_F_fewestToBreak_5 rfl ?_
  refine vj_istore_n G (lv2 := [(2, .int (i32 0)), (1, .int (i32 r1)), (0, .ref (wa w 5))]) d_F_fewestToBreak_6 rfl (by decide) rfl ?_
  refine vj_bipush G (v := 13) d_F_fewestToBreak_7 rfl ?_
  refine vj_istore_n G (lv2 := [(3, .int (i32 13)), (2, .int (i32 0)), (1, .int (i32 r1)), (0, .ref (wa w 5))]) d_F_fewestToBreak_9 rfl (by decide) rfl ?_
  refine vj_iconst G (v := 0) d_F_fewestToBreak_10 rfl ?_
  refine vj_istore G (lv2 := [(4, .int (i32 0)), (3, .int (i32 13)), (2, .int (i32 0)), (1, .int (i32 r1)), (0, .ref (wa w 5))]) d_F_fewestToBreak_11 (by decide) rfl ?_
  refine vj_sub [4, 3, 2, 1, 0] rfl ?_
  exact wl_F_fewestToBreak_13 G0 n  n r1 0 13 0 hr1 ic_0 ic_13 ic_0 _ hF
set_option maxHeartbeats 4000000 in
set_option maxRecDepth 100000 in
theorem ct_W_breaks {w : Wd} (hij : ij LC w) (n : Nat) {M : Mm} {r : Int} {M9 : Mm} (hF : f_W_breaks n  M = some (r, M9)) : Ct LC w y_W_breaks b_W_breaks 1 (some .long) 4 93 2 [.ref (wa w 0)] M r M9 := by
  refine Ct.of hij KstC (by decide +kernel) (Nat.le_of_ble_eq_true rfl) (fun X G0 => ?_)
  have G := G0.1
  show VJ LC w X 1 2 r M9 M [(0, .ref (wa w 0))] [] 0
  unfold f_W_breaks at hF
  refine vj_aload_n G (p9 := 0) d_W_breaks_0 rfl rfl ?_
  refine gfC_W_52 G d_W_breaks_1 ?_
  obtain ⟨r1, M1, e1, hF⟩ := bnd_some hF
  refine vj_callV2 G (ct_F_fewestToBreak (gx_ij G) n   e1) lkC_5 clC_11 rfl q_1143 cq_F_fewestToBreak rfl (by decide) (by decide) (Nat.le_of_ble_eq_true rfl) d_W_breaks_4 rfl (fun hr1 => ?_)
  cases hF
  exact vj_lret G0 hr1 d_W_breaks_7
set_option maxHeartbeats 4000000 in
set_option maxRecDepth 100000 in
theorem wk_W_trace_30 {w : Wd} {X : Cx} {r : Int} {M9 : Mm} (G0 : Gx LC w X "WhoRules" b_W_trace 2 0 0 (some .int)) (n : Nat) (M : Mm) (hF : f_W_trace_30 n  M = some (r, M9)) : VJ LC w X 2 1 r M9 M [] [] 30 := by
  have G := G0.1
  unfold f_W_trace_30 at hF
  refine vj_iconst G (v := (-1)) d_W_trace_30 rfl ?_
  cases hF
  exact vj_iret G0 ic_m1 d_W_trace_31
set_option maxHeartbeats 4000000 in
set_option maxRecDepth 100000 in
theorem ct_W_trace {w : Wd} (hij : ij LC w) (n : Nat) (x1 : Int) (hx1 : inR x1) {M : Mm} {r : Int} {M9 : Mm} (hF : f_W_trace n x1 M = some (r, M9)) : Ct LC w y_W_trace b_W_trace 2 (some .int) 0 0 1 [.ref (wa w 0), .int (i32 x1)] M r M9 := by
  refine Ct.of hij KstC (by decide +kernel) (Nat.le_of_ble_eq_true rfl) (fun X G0 => ?_)
  have G := G0.1
  show VJ LC w X 2 1 r M9 M [(0, .ref (wa w 0)), (1, .int (i32 x1))] [] 0
  unfold f_W_trace at hF
  refine vj_iload_n G (p9 := 1) d_W_trace_0 rfl rfl ?_
  refine vj_if_lt G (tgt := 30) d_W_trace_1 (by decide) hx1 (fun c1 => ?_) (fun c1 => ?_)
  · rw [if_pos c1] at hF
    refine vj_sub [] rfl ?_
    exact wk_W_trace_30 G0 n    _ hF
  · rw [if_neg c1] at hF
    refine vj_iload_n G (p9 := 1) d_W_trace_4 rfl rfl ?_
    refine vj_bipush G (v := 20) d_W_trace_5 rfl ?_
    refine vj_icmp_ge G (tgt := 30) d_W_trace_7 (by decide) hx1 ic_20 (fun c2 => ?_) (fun c2 => ?_)
    · rw [if_pos c2] at hF
      refine vj_sub [] rfl ?_
      exact wk_W_trace_30 G0 n    _ hF
    · rw [if_neg c2] at hF
      refine vj_iload_n G (p9 := 1) d_W_trace_10 rfl rfl ?_
      refine vj_aload_n G (p9 := 0) d_W_trace_11 rfl rfl ?_
      refine gfC_W_11 G d_W_trace_12 ?_
      refine vj_bipush G (v := 20) d_W_trace_15 rfl ?_
      refine vj_iald G (x := 20) lkC_10 (by decide) ⟨by decide, by decide⟩ d_W_trace_17 ?_
      refine vj_mr (fun hM3 => ?_)
      refine vj_icmp_ge G (tgt := 30) d_W_trace_18 (by decide) hx1 (mr_a hM3 lkC_10) (fun c4 => ?_) (fun c4 => ?_)
      · rw [if_pos c4] at hF
        refine vj_sub [] rfl ?_
        exact wk_W_trace_30 G0 n    _ hF
      · rw [if_neg c4] at hF
        refine vj_aload_n G (p9 := 0) d_W_trace_21 rfl rfl ?_
        refine gfC_W_11 G d_W_trace_22 ?_
        refine vj_iload_n G (p9 := 1) d_W_trace_25 rfl rfl ?_
        obtain ⟨c5, hF⟩ := ck_some hF
        refine vj_iald G (x := x1) lkC_10 (by decide) c5 d_W_trace_26 ?_
        refine vj_mr (fun hM6 => ?_)
        refine vj_goto G (tgt := 31) d_W_trace_27 (by decide) ?_
        cases hF
        exact vj_iret G0 (mr_a hM6 lkC_10) d_W_trace_31
set_option maxHeartbeats 4000000 in
set_option maxRecDepth 100000 in
theorem ct_W_count {w : Wd} (hij : ij LC w) (n : Nat) (x1 : Int) (hx1 : inR x1) {M : Mm} {r : Int} {M9 : Mm} (hF : f_W_count n x1 M = some (r, M9)) : Ct LC w y_W_count b_W_count 2 (some .int) 1 20 1 [.ref (wa w 0), .int (i32 x1)] M r M9 := by
  refine Ct.of hij KstC (by decide +kernel) (Nat.le_of_ble_eq_true rfl) (fun X G0 => ?_)
  have G := G0.1
  show VJ LC w X 2 1 r M9 M [(0, .ref (wa w 0)), (1, .int (i32 x1))] [] 0
  unfold f_W_count at hF
  refine vj_iload_n G (p9 := 1) d_W_count_0 rfl rfl ?_
  by_cases c1 : x1 = 0
  · rw [if_pos c1] at hF
    refine vj_swIn G (y := 0) (tgt := 56) d_W_count_1 hx1 c1 (by decide) (by decide) rfl (by decide) ?_
    refine vj_aload_n G (p9 := 0) d_W_count_56 rfl rfl ?_
    refine gfC_W_18 G d_W_count_57 ?_
    refine gfC_W_79 G d_W_count_60 ?_
    refine vj_mr (fun hM2 => ?_)
    cases hF
    exact vj_iret G0 (mr_o hM2 lkC_1 flC_7_0) d_W_count_63
  · rw [if_neg c1] at hF
    by_cases c3 : x1 = 1
    · rw [if_pos c3] at hF
      refine vj_swIn G (y := 1) (tgt := 64) d_W_count_1 hx1 c3 (by decide) (by decide) rfl (by decide) ?_
      refine vj_aload_n G (p9 := 0) d_W_count_64 rfl rfl ?_
      refine gfC_W_18 G d_W_count_65 ?_
      refine gfC_W_267 G d_W_count_68 ?_
      refine vj_mr (fun hM4 => ?_)
      cases hF
      exact vj_iret G0 (mr_o hM4 lkC_1 flC_7_1) d_W_count_71
    · rw [if_neg c3] at hF
      by_cases c5 : x1 = 2
      · rw [if_pos c5] at hF
        refine vj_swIn G (y := 2) (tgt := 72) d_W_count_1 hx1 c5 (by decide) (by decide) rfl (by decide) ?_
        refine vj_aload_n G (p9 := 0) d_W_count_72 rfl rfl ?_
        refine gfC_W_18 G d_W_count_73 ?_
        refine gfC_W_199 G d_W_count_76 ?_
        refine vj_mr (fun hM6 => ?_)
        cases hF
        exact vj_iret G0 (mr_o hM6 lkC_1 flC_7_2) d_W_count_79
      · rw [if_neg c5] at hF
        by_cases c7 : x1 = 3
        · rw [if_pos c7] at hF
          refine vj_swIn G (y := 3) (tgt := 80) d_W_count_1 hx1 c7 (by decide) (by decide) rfl (by decide) ?_
          refine vj_aload_n G (p9 := 0) d_W_count_80 rfl rfl ?_
          refine gfC_W_18 G d_W_count_81 ?_
          refine gfC_W_312 G d_W_count_84 ?_
          refine vj_mr (fun hM8 => ?_)
          cases hF
          exact vj_iret G0 (mr_o hM8 lkC_1 flC_7_4) d_W_count_87
        · rw [if_neg c7] at hF
          by_cases c9 : x1 = 4
          · rw [if_pos c9] at hF
            refine vj_swIn G (y := 4) (tgt := 88) d_W_count_1 hx1 c9 (by decide) (by decide) rfl (by decide) ?_
            refine vj_aload_n G (p9 := 0) d_W_count_88 rfl rfl ?_
            refine gfC_W_18 G d_W_count_89 ?_
            obtain ⟨r10, M10, e10, hF⟩ := bnd_some hF
            refine vj_callV1 G (ct_R_sales (gx_ij G) n   e10) lkC_1 clC_7 rfl q_626 cq_R_sales rfl (by decide) (by decide) (Nat.le_of_ble_eq_true rfl) d_W_count_92 rfl (fun hr10 => ?_)
            cases hF
            exact vj_iret G0 hr10 d_W_count_95
          · rw [if_neg c9] at hF
            by_cases c11 : x1 = 5
            · rw [if_pos c11] at hF
              refine vj_swIn G (y := 5) (tgt := 96) d_W_count_1 hx1 c11 (by decide) (by decide) rfl (by decide) ?_
              refine vj_aload_n G (p9 := 0) d_W_count_96 rfl rfl ?_
              refine gfC_W_25 G d_W_count_97 ?_
              refine gfC_W_145 G d_W_count_100 ?_
              refine vj_mr (fun hM12 => ?_)
              cases hF
              exact vj_iret G0 (mr_o hM12 lkC_2 flC_8_0) d_W_count_103
            · rw [if_neg c11] at hF
              by_cases c13 : x1 = 6
              · rw [if_pos c13] at hF
                refine vj_swIn G (y := 6) (tgt := 104) d_W_count_1 hx1 c13 (by decide) (by decide) rfl (by decide) ?_
                refine vj_aload_n G (p9 := 0) d_W_count_104 rfl rfl ?_
                refine gfC_W_25 G d_W_count_105 ?_
                refine gfC_W_138 G d_W_count_108 ?_
                refine vj_mr (fun hM14 => ?_)
                cases hF
                exact vj_iret G0 (mr_o hM14 lkC_2 flC_8_1) d_W_count_111
              · rw [if_neg c13] at hF
                by_cases c15 : x1 = 7
                · rw [if_pos c15] at hF
                  refine vj_swIn G (y := 7) (tgt := 112) d_W_count_1 hx1 c15 (by decide) (by decide) rfl (by decide) ?_
                  refine vj_aload_n G (p9 := 0) d_W_count_112 rfl rfl ?_
                  refine gfC_W_258 G d_W_count_113 ?_
                  refine vj_mr (fun hM16 => ?_)
                  cases hF
                  exact vj_iret G0 (mr_o hM16 lkC_0 flC_6_8) d_W_count_116
                · rw [if_neg c15] at hF
                  by_cases c17 : x1 = 8
                  · rw [if_pos c17] at hF
                    refine vj_swIn G (y := 8) (tgt := 117) d_W_count_1 hx1 c17 (by decide) (by decide) rfl (by decide) ?_
                    refine vj_aload_n G (p9 := 0) d_W_count_117 rfl rfl ?_
                    refine gfC_W_18 G d_W_count_118 ?_
                    refine gfC_W_202 G d_W_count_121 ?_
                    refine vj_mr (fun hM18 => ?_)
                    cases hF
                    exact vj_iret G0 (mr_o hM18 lkC_1 flC_7_3) d_W_count_124
                  · rw [if_neg c17] at hF
                    by_cases c19 : x1 = 9
                    · rw [if_pos c19] at hF
                      refine vj_swIn G (y := 9) (tgt := 125) d_W_count_1 hx1 c19 (by decide) (by decide) rfl (by decide) ?_
                      refine vj_aload_n G (p9 := 0) d_W_count_125 rfl rfl ?_
                      refine gfC_W_11 G d_W_count_126 ?_
                      refine vj_bipush G (v := 20) d_W_count_129 rfl ?_
                      refine vj_iald G (x := 20) lkC_10 (by decide) ⟨by decide, by decide⟩ d_W_count_131 ?_
                      refine vj_mr (fun hM20 => ?_)
                      cases hF
                      exact vj_iret G0 (mr_a hM20 lkC_10) d_W_count_132
                    · rw [if_neg c19] at hF
                      refine vj_swOut G (tgt := 133) d_W_count_1 hx1 (by omega) (by decide) ?_
                      refine vj_bipush G (v := (-2)) d_W_count_133 rfl ?_
                      cases hF
                      exact vj_iret G0 ic_m2 d_W_count_135
set_option maxHeartbeats 4000000 in
set_option maxRecDepth 100000 in
theorem wk_W_tape_67 {w : Wd} {X : Cx} {r : Int} {M9 : Mm} (G0 : Gx LC w X "WhoRules" b_W_tape 4 1 24 (some .int)) (n : Nat) (x1 s1 s2 : Int) (hx1 : inR x1) (hs1 : inR s1) (hs2 : inR s2) (M : Mm) (hF : f_W_tape_67 n x1 s1 s2 M = some (r, M9)) : VJ LC w X 4 1 r M9 M [(0, .ref (wa w 0)), (1, .int (i32 x1))] [.int (i32 s2), .int (i32 s1), .ref (wa w 14)] 67 := by
  have G := G0.1
  unfold f_W_tape_67 at hF
  obtain ⟨c1, hF⟩ := ck_some hF
  refine vj_iast G (x := s1) lkC_14 (by decide) (by decide) (by decide) c1 hs2 d_W_tape_67 ?_
  refine vj_aload_n G (p9 := 0) d_W_tape_68 rfl rfl ?_
  refine gfC_W_70 G d_W_tape_69 ?_
  refine vj_iload_n G (p9 := 1) d_W_tape_72 rfl rfl ?_
  obtain ⟨c2, hF⟩ := ck_some hF
  refine vj_aald6 G (x := x1) lkC_15 (by decide) c2 d_W_tape_73 ?_
  refine vj_lconst G (v := 0) d_W_tape_74 rfl ?_
  refine vj_fillL G (lkC_r100 c2) (by decide) (k9_100 c2) (kh_100 c2) q_1281 (lr_i ic_0) (by decide) (by decide) (by decide) d_W_tape_75 ?_
  refine vj_iconst G (v := 1) d_W_tape_78 rfl ?_
  cases hF
  exact vj_iret G0 ic_1 d_W_tape_79
set_option maxHeartbeats 4000000 in
set_option maxRecDepth 100000 in
theorem wk_W_tape_45 {w : Wd} {X : Cx} {r : Int} {M9 : Mm} (G0 : Gx LC w X "WhoRules" b_W_tape 4 1 24 (some .int)) (n : Nat) (x1 x2 x3 : Int) (hx1 : inR x1) (hx2 : inR x2) (hx3 : inR x3) (M : Mm) (hF : f_W_tape_45 n x1 x2 x3 M = some (r, M9)) : VJ LC w X 4 1 r M9 M [(0, .ref (wa w 0)), (1, .int (i32 x1)), (2, .int (i32 x2)), (3, .int (i32 x3))] [] 45 := by
  have G := G0.1
  unfold f_W_tape_45 at hF
  refine vj_aload_n G (p9 := 0) d_W_tape_45 rfl rfl ?_
  refine gfC_W_62 G d_W_tape_46 ?_
  refine vj_iload_n G (p9 := 1) d_W_tape_49 rfl rfl ?_
  refine vj_iload_n G (p9 := 2) d_W_tape_50 rfl rfl ?_
  obtain ⟨c1, hF⟩ := ck_some hF
  refine vj_iast G (x := x1) lkC_13 (by decide) (by decide) (by decide) c1 hx2 d_W_tape_51 ?_
  refine vj_aload_n G (p9 := 0) d_W_tape_52 rfl rfl ?_
  refine gfC_W_65 G d_W_tape_53 ?_
  refine vj_iload_n G (p9 := 1) d_W_tape_56 rfl rfl ?_
  refine vj_iload_n G (p9 := 2) d_W_tape_57 rfl rfl ?_
  refine vj_iconst G (v := (-1)) d_W_tape_58 rfl ?_
  refine vj_icmp_ne G (tgt := 66) d_W_tape_59 (by decide) hx2 ic_m1 (fun c2 => ?_) (fun c2 => ?_)
  · rw [if_pos c2] at hF
    refine vj_iload_n G (p9 := 3) d_W_tape_66 rfl rfl ?_
    refine vj_sub [0, 1] rfl ?_
    exact wk_W_tape_67 G0 n  x1 x1 x3 hx1 hx1 hx3 _ hF
  · rw [if_neg c2] at hF
    refine vj_iconst G (v := 0) d_W_tape_62 rfl ?_
    refine vj_goto G (tgt := 67) d_W_tape_63 (by decide) ?_
    refine vj_sub [0, 1] rfl ?_
    exact wk_W_tape_67 G0 n  x1 x1 0 hx1 hx1 ic_0 _ hF
set_option maxHeartbeats 4000000 in
set_option maxRecDepth 100000 in
theorem wk_W_tape_33 {w : Wd} {X : Cx} {r : Int} {M9 : Mm} (G0 : Gx LC w X "WhoRules" b_W_tape 4 1 24 (some .int)) (n : Nat) (x1 x2 x3 : Int) (hx1 : inR x1) (hx2 : inR x2) (hx3 : inR x3) (M : Mm) (hF : f_W_tape_33 n x1 x2 x3 M = some (r, M9)) : VJ LC w X 4 1 r M9 M [(0, .ref (wa w 0)), (1, .int (i32 x1)), (2, .int (i32 x2)), (3, .int (i32 x3))] [] 33 := by
  have G := G0.1
  unfold f_W_tape_33 at hF
  refine vj_iload_n G (p9 := 2) d_W_tape_33 rfl rfl ?_
  refine vj_iconst G (v := (-1)) d_W_tape_34 rfl ?_
  refine vj_icmp_eq G (tgt := 45) d_W_tape_35 (by decide) hx2 ic_m1 (fun c1 => ?_) (fun c1 => ?_)
  · rw [if_pos c1] at hF
    exact wk_W_tape_45 G0 n  x1 x2 x3 hx1 hx2 hx3 _ hF
  · rw [if_neg c1] at hF
    refine vj_iload_n G (p9 := 3) d_W_tape_38 rfl rfl ?_
    refine vj_if_ge G (tgt := 45) d_W_tape_39 (by decide) hx3 (fun c2 => ?_) (fun c2 => ?_)
    · rw [if_pos c2] at hF
      exact wk_W_tape_45 G0 n  x1 x2 x3 hx1 hx2 hx3 _ hF
    · rw [if_neg c2] at hF
      refine vj_bipush G (v := (-14)) d_W_tape_42 rfl ?_
      cases hF
      exact vj_iret G0 ic_m14 d_W_tape_44
set_option maxHeartbeats 4000000 in
set_option maxRecDepth 100000 in
theorem ct_W_tape {w : Wd} (hij : ij LC w) (n : Nat) (x1 x2 x3 : Int) (hx1 : inR x1) (hx2 : inR x2) (hx3 : inR x3) {M : Mm} {r : Int} {M9 : Mm} (hF : f_W_tape n x1 x2 x3 M = some (r, M9)) : Ct LC w y_W_tape b_W_tape 4 (some .int) 1 24 1 [.ref (wa w 0), .int (i32 x1), .int (i32 x2), .int (i32 x3)] M r M9 := by
  refine Ct.of hij KstC (by decide +kernel) (Nat.le_of_ble_eq_true rfl) (fun X G0 => ?_)
  have G := G0.1
  show VJ LC w X 4 1 r M9 M [(0, .ref (wa w 0)), (1, .int (i32 x1)), (2, .int (i32 x2)), (3, .int (i32 x3))] [] 0
  unfold f_W_tape at hF
  refine vj_iload_n G (p9 := 1) d_W_tape_0 rfl rfl ?_
  obtain ⟨r1, M1, e1, hF⟩ := bnd_some hF
  refine vj_callS3 G (ct_W_isTape (gx_ij G) n x1 hx1 e1) q_938 cq_W_isTape rfl (by decide) (by decide) (Nat.le_of_ble_eq_true rfl) d_W_tape_1 rfl (fun hr1 => ?_)
  refine vj_if_ne G (tgt := 9) d_W_tape_4 (by decide) (ir_b hr1) (fun c2 => ?_) (fun c2 => ?_)
  · rw [if_pos c2] at hF
    refine vj_iload_n G (p9 := 2) d_W_tape_9 rfl rfl ?_
    refine vj_iconst G (v := (-1)) d_W_tape_10 rfl ?_
    refine vj_icmp_lt G (tgt := 30) d_W_tape_11 (by decide) hx2 ic_m1 (fun c3 => ?_) (fun c3 => ?_)
    · rw [if_pos c3] at hF
      refine vj_bipush G (v := (-2)) d_W_tape_30 rfl ?_
      cases hF
      exact vj_iret G0 ic_m2 d_W_tape_32
    · rw [if_neg c3] at hF
      refine vj_iload_n G (p9 := 2) d_W_tape_14 rfl rfl ?_
      refine vj_iconst G (v := 4) d_W_tape_15 rfl ?_
      refine vj_icmp_gt G (tgt := 30) d_W_tape_16 (by decide) hx2 ic_4 (fun c4 => ?_) (fun c4 => ?_)
      · rw [if_pos c4] at hF
        refine vj_bipush G (v := (-2)) d_W_tape_30 rfl ?_
        cases hF
        exact vj_iret G0 ic_m2 d_W_tape_32
      · rw [if_neg c4] at hF
        refine vj_iload_n G (p9 := 2) d_W_tape_19 rfl rfl ?_
        refine vj_iconst G (v := (-1)) d_W_tape_20 rfl ?_
        refine vj_icmp_eq G (tgt := 33) d_W_tape_21 (by decide) hx2 ic_m1 (fun c5 => ?_) (fun c5 => ?_)
        · rw [if_pos c5] at hF
          exact wk_W_tape_33 G0 n  x1 x2 x3 hx1 hx2 hx3 _ hF
        · rw [if_neg c5] at hF
          refine vj_iload_n G (p9 := 3) d_W_tape_24 rfl rfl ?_
          refine vj_bipush G (v := 60) d_W_tape_25 rfl ?_
          refine vj_icmp_le G (tgt := 33) d_W_tape_27 (by decide) hx3 ic_60 (fun c6 => ?_) (fun c6 => ?_)
          · rw [if_pos c6] at hF
            exact wk_W_tape_33 G0 n  x1 x2 x3 hx1 hx2 hx3 _ hF
          · rw [if_neg c6] at hF
            refine vj_bipush G (v := (-2)) d_W_tape_30 rfl ?_
            cases hF
            exact vj_iret G0 ic_m2 d_W_tape_32
  · rw [if_neg c2] at hF
    refine vj_iconst G (v := (-1)) d_W_tape_7 rfl ?_
    cases hF
    exact vj_iret G0 ic_m1 d_W_tape_8
set_option maxHeartbeats 4000000 in
set_option maxRecDepth 100000 in
theorem ct_W_cut {w : Wd} (hij : ij LC w) (n : Nat) (x0 x2 : Int) (hx0 : in64 x0) (hx2 : inR x2) {M : Mm} {r : Int} {M9 : Mm} (hF : f_W_cut n x0 x2 M = some (r, M9)) : Ct LC w y_W_cut b_W_cut 3 (some .long) 0 0 2 [.long (i64 x0), .int (i32 x2)] M r M9 := by
  refine Ct.of hij KstC (by decide +kernel) (Nat.le_of_ble_eq_true rfl) (fun X G0 => ?_)
  have G := G0.1
  show VJ LC w X 3 2 r M9 M [(0, .long (i64 x0)), (2, .int (i32 x2))] [] 0
  unfold f_W_cut at hF
  refine vj_iload_n G (p9 := 1) d_W_cut_0 rfl rfl ?_
  by_cases c1 : x2 = 0
  · rw [if_pos c1] at hF
    refine vj_swIn G (y := 0) (tgt := 32) d_W_cut_1 hx2 c1 (by decide) (by decide) rfl (by decide) ?_
    refine vj_lload_n G (p9 := 0) d_W_cut_32 rfl rfl ?_
    refine vj_l2i G d_W_cut_33 ?_
    refine vj_i2b G d_W_cut_34 ?_
    refine vj_i2l G d_W_cut_35 (ir_w8 _) ?_
    cases hF
    exact vj_lret G0 (lr_i (ir_w8 _)) d_W_cut_36
  · rw [if_neg c1] at hF
    by_cases c2 : x2 = 1
    · rw [if_pos c2] at hF
      refine vj_swIn G (y := 1) (tgt := 37) d_W_cut_1 hx2 c2 (by decide) (by decide) rfl (by decide) ?_
      refine vj_lload_n G (p9 := 0) d_W_cut_37 rfl rfl ?_
      refine vj_l2i G d_W_cut_38 ?_
      refine vj_i2s G d_W_cut_39 ?_
      refine vj_i2l G d_W_cut_40 (ir_w16 _) ?_
      cases hF
      exact vj_lret G0 (lr_i (ir_w16 _)) d_W_cut_41
    · rw [if_neg c2] at hF
      by_cases c3 : x2 = 2
      · rw [if_pos c3] at hF
        refine vj_swIn G (y := 2) (tgt := 42) d_W_cut_1 hx2 c3 (by decide) (by decide) rfl (by decide) ?_
        refine vj_lload_n G (p9 := 0) d_W_cut_42 rfl rfl ?_
        refine vj_l2i G d_W_cut_43 ?_
        refine vj_i2l G d_W_cut_44 (ir_w _) ?_
        cases hF
        exact vj_lret G0 (lr_i (ir_w _)) d_W_cut_45
      · rw [if_neg c3] at hF
        by_cases c4 : x2 = 3
        · rw [if_pos c4] at hF
          refine vj_swIn G (y := 3) (tgt := 46) d_W_cut_1 hx2 c4 (by decide) (by decide) rfl (by decide) ?_
          refine vj_lload_n G (p9 := 0) d_W_cut_46 rfl rfl ?_
          cases hF
          exact vj_lret G0 hx0 d_W_cut_47
        · rw [if_neg c4] at hF
          refine vj_swOut G (tgt := 48) d_W_cut_1 hx2 (by omega) (by decide) ?_
          refine vj_lload_n G (p9 := 0) d_W_cut_48 rfl rfl ?_
          refine vj_lconst G (v := 0) d_W_cut_49 rfl ?_
          refine vj_lcmp_eq G (tgt := 58) d_W_cut_50 d_W_cut_51 (by decide) hx0 (lr_i ic_0) (fun c5 => ?_) (fun c5 => ?_)
          · rw [if_pos c5] at hF
            refine vj_lconst G (v := 0) d_W_cut_58 rfl ?_
            cases hF
            exact vj_lret G0 (lr_i ic_0) d_W_cut_59
          · rw [if_neg c5] at hF
            refine vj_lconst G (v := 1) d_W_cut_54 rfl ?_
            refine vj_goto G (tgt := 59) d_W_cut_55 (by decide) ?_
            cases hF
            exact vj_lret G0 (lr_i ic_1) d_W_cut_59
set_option maxHeartbeats 4000000 in
set_option maxRecDepth 100000 in
theorem ct_W_item {w : Wd} (hij : ij LC w) (n : Nat) (x1 x2 x3 : Int) (hx1 : inR x1) (hx2 : inR x2) (hx3 : in64 x3) {M : Mm} {r : Int} {M9 : Mm} (hF : f_W_item n x1 x2 x3 M = some (r, M9)) : Ct LC w y_W_item b_W_item 5 (some .int) 1 23 1 [.ref (wa w 0), .int (i32 x1), .int (i32 x2), .long (i64 x3)] M r M9 := by
  refine Ct.of hij KstC (by decide +kernel) (Nat.le_of_ble_eq_true rfl) (fun X G0 => ?_)
  have G := G0.1
  show VJ LC w X 5 1 r M9 M [(0, .ref (wa w 0)), (1, .int (i32 x1)), (2, .int (i32 x2)), (3, .long (i64 x3))] [] 0
  unfold f_W_item at hF
  refine vj_iload_n G (p9 := 1) d_W_item_0 rfl rfl ?_
  obtain ⟨r1, M1, e1, hF⟩ := bnd_some hF
  refine vj_callS3 G (ct_W_isTape (gx_ij G) n x1 hx1 e1) q_938 cq_W_isTape rfl (by decide) (by decide) (Nat.le_of_ble_eq_true rfl) d_W_item_1 rfl (fun hr1 => ?_)
  refine vj_if_ne G (tgt := 9) d_W_item_4 (by decide) (ir_b hr1) (fun c2 => ?_) (fun c2 => ?_)
  · rw [if_pos c2] at hF
    refine vj_aload_n G (p9 := 0) d_W_item_9 rfl rfl ?_
    refine gfC_W_62 G d_W_item_10 ?_
    refine vj_iload_n G (p9 := 1) d_W_item_13 rfl rfl ?_
    obtain ⟨c3, hF⟩ := ck_some hF
    refine vj_iald G (x := x1) lkC_13 (by decide) c3 d_W_item_14 ?_
    refine vj_mr (fun hM4 => ?_)
    refine vj_iconst G (v := (-1)) d_W_item_15 rfl ?_
    refine vj_icmp_ne G (tgt := 22) d_W_item_16 (by decide) (mr_a hM4 lkC_13) ic_m1 (fun c5 => ?_) (fun c5 => ?_)
    · rw [if_pos c5] at hF
      refine vj_aload_n G (p9 := 0) d_W_item_22 rfl rfl ?_
      refine vj_iload_n G (p9 := 1) d_W_item_23 rfl rfl ?_
      refine vj_iload_n G (p9 := 2) d_W_item_24 rfl rfl ?_
      refine vj_iconst G (v := 1) d_W_item_25 rfl ?_
      obtain ⟨r6, M6, e6, hF⟩ := bnd_some hF
      refine vj_callV3 G (ct_W_hasPlaces (gx_ij G) n x1 x2 1 hx1 hx2 ic_1 e6) lkC_0 clC_6 rfl q_946 cq_W_hasPlaces rfl (by decide) (by decide) (Nat.le_of_ble_eq_true rfl) d_W_item_26 rfl (fun hr6 => ?_)
      refine vj_if_ne G (tgt := 35) d_W_item_29 (by decide) (ir_b hr6) (fun c7 => ?_) (fun c7 => ?_)
      · rw [if_pos c7] at hF
        refine vj_aload_n G (p9 := 0) d_W_item_35 rfl rfl ?_
        refine gfC_W_70 G d_W_item_36 ?_
        refine vj_iload_n G (p9 := 1) d_W_item_39 rfl rfl ?_
        obtain ⟨c8, hF⟩ := ck_some hF
        refine vj_aald6 G (x := x1) lkC_15 (by decide) c8 d_W_item_40 ?_
        refine vj_iload_n G (p9 := 2) d_W_item_41 rfl rfl ?_
        refine vj_lload_n G (p9 := 3) d_W_item_42 rfl rfl ?_
        refine vj_aload_n G (p9 := 0) d_W_item_43 rfl rfl ?_
        refine gfC_W_62 G d_W_item_44 ?_
        refine vj_iload_n G (p9 := 1) d_W_item_47 rfl rfl ?_
        obtain ⟨c9, hF⟩ := ck_some hF
        refine vj_iald G (x := x1) lkC_13 (by decide) c9 d_W_item_48 ?_
        refine vj_mr (fun hM10 => ?_)
        obtain ⟨r11, M11, e11, hF⟩ := bnd_some hF
        refine vj_callS2 G (ct_W_cut (gx_ij G) n x3 (M6 13 x1.toNat) hx3 (mr_a hM10 lkC_13) e11) q_1288 cq_W_cut rfl (by decide) (by decide) (Nat.le_of_ble_eq_true rfl) d_W_item_49 rfl (fun hr11 => ?_)
        obtain ⟨c12, hF⟩ := ck_some hF
        refine vj_last G (x := x2) (lkC_r100 c8) (by decide) (k9_100 c8) (kh_100 c8) c12 hr11 d_W_item_52 ?_
        refine vj_iconst G (v := 1) d_W_item_53 rfl ?_
        cases hF
        exact vj_iret G0 ic_1 d_W_item_54
      · rw [if_neg c7] at hF
        refine vj_bipush G (v := (-13)) d_W_item_32 rfl ?_
        cases hF
        exact vj_iret G0 ic_m13 d_W_item_34
    · rw [if_neg c5] at hF
      refine vj_bipush G (v := (-11)) d_W_item_19 rfl ?_
      cases hF
      exact vj_iret G0 ic_m11 d_W_item_21
  · rw [if_neg c2] at hF
    refine vj_iconst G (v := (-1)) d_W_item_7 rfl ?_
    cases hF
    exact vj_iret G0 ic_m1 d_W_item_8
set_option maxHeartbeats 4000000 in
set_option maxRecDepth 100000 in
theorem wk_W_read_28 {w : Wd} {X : Cx} {r : Int} {M9 : Mm} (G0 : Gx LC w X "WhoRules" b_W_read 3 1 23 (some .long)) (n : Nat) (M : Mm) (hF : f_W_read_28 n  M = some (r, M9)) : VJ LC w X 3 2 r M9 M [] [] 28 := by
  have G := G0.1
  unfold f_W_read_28 at hF
  refine vj_ldc2 G (v := (-9223372036854775808)) d_W_read_28 q_959 rfl ?_
  cases hF
  exact vj_lret G0 ⟨by decide, by decide⟩ d_W_read_31
set_option maxHeartbeats 4000000 in
set_option maxRecDepth 100000 in
theorem ct_W_read {w : Wd} (hij : ij LC w) (n : Nat) (x1 x2 : Int) (hx1 : inR x1) (hx2 : inR x2) {M : Mm} {r : Int} {M9 : Mm} (hF : f_W_read n x1 x2 M = some (r, M9)) : Ct LC w y_W_read b_W_read 3 (some .long) 1 23 2 [.ref (wa w 0), .int (i32 x1), .int (i32 x2)] M r M9 := by
  refine Ct.of hij KstC (by decide +kernel) (Nat.le_of_ble_eq_true rfl) (fun X G0 => ?_)
  have G := G0.1
  show VJ LC w X 3 2 r M9 M [(0, .ref (wa w 0)), (1, .int (i32 x1)), (2, .int (i32 x2))] [] 0
  unfold f_W_read at hF
  refine vj_iload_n G (p9 := 1) d_W_read_0 rfl rfl ?_
  obtain ⟨r1, M1, e1, hF⟩ := bnd_some hF
  refine vj_callS3 G (ct_W_isTape (gx_ij G) n x1 hx1 e1) q_938 cq_W_isTape rfl (by decide) (by decide) (Nat.le_of_ble_eq_true rfl) d_W_read_1 rfl (fun hr1 => ?_)
  refine vj_if_eq G (tgt := 28) d_W_read_4 (by decide) (ir_b hr1) (fun c2 => ?_) (fun c2 => ?_)
  · rw [if_pos c2] at hF
    refine vj_sub [] rfl ?_
    exact wk_W_read_28 G0 n    _ hF
  · rw [if_neg c2] at hF
    refine vj_aload_n G (p9 := 0) d_W_read_7 rfl rfl ?_
    refine vj_iload_n G (p9 := 1) d_W_read_8 rfl rfl ?_
    refine vj_iload_n G (p9 := 2) d_W_read_9 rfl rfl ?_
    refine vj_iconst G (v := 1) d_W_read_10 rfl ?_
    obtain ⟨r3, M3, e3, hF⟩ := bnd_some hF
    refine vj_callV3 G (ct_W_hasPlaces (gx_ij G) n x1 x2 1 hx1 hx2 ic_1 e3) lkC_0 clC_6 rfl q_946 cq_W_hasPlaces rfl (by decide) (by decide) (Nat.le_of_ble_eq_true rfl) d_W_read_11 rfl (fun hr3 => ?_)
    refine vj_if_eq G (tgt := 28) d_W_read_14 (by decide) (ir_b hr3) (fun c4 => ?_) (fun c4 => ?_)
    · rw [if_pos c4] at hF
      refine vj_sub [] rfl ?_
      exact wk_W_read_28 G0 n    _ hF
    · rw [if_neg c4] at hF
      refine vj_aload_n G (p9 := 0) d_W_read_17 rfl rfl ?_
      refine gfC_W_70 G d_W_read_18 ?_
      refine vj_iload_n G (p9 := 1) d_W_read_21 rfl rfl ?_
      obtain ⟨c5, hF⟩ := ck_some hF
      refine vj_aald6 G (x := x1) lkC_15 (by decide) c5 d_W_read_22 ?_
      refine vj_iload_n G (p9 := 2) d_W_read_23 rfl rfl ?_
      obtain ⟨c6, hF⟩ := ck_some hF
      refine vj_lald G (x := x2) (lkC_r100 c5) (by decide) c6 d_W_read_24 ?_
      refine vj_mr (fun hM7 => ?_)
      refine vj_goto G (tgt := 31) d_W_read_25 (by decide) ?_
      cases hF
      exact vj_lret G0 (mr_al hM7 (lkC_r100 c5)) d_W_read_31
set_option maxHeartbeats 4000000 in
set_option maxRecDepth 100000 in
theorem ct_W_shift {w : Wd} (hij : ij LC w) (n : Nat) (x1 x2 x3 x4 x5 : Int) (hx1 : inR x1) (hx2 : inR x2) (hx3 : inR x3) (hx4 : inR x4) (hx5 : inR x5) {M : Mm} {r : Int} {M9 : Mm} (hF : f_W_shift n x1 x2 x3 x4 x5 M = some (r, M9)) : Ct LC w y_W_shift b_W_shift 6 (some .int) 1 40 1 [.ref (wa w 0), .int (i32 x1), .int (i32 x2), .int (i32 x3), .int (i32 x4), .int (i32 x5)] M r M9 := by
  refine Ct.of hij KstC (by decide +kernel) (Nat.le_of_ble_eq_true rfl) (fun X G0 => ?_)
  have G := G0.1
  show VJ LC w X 6 1 r M9 M [(0, .ref (wa w 0)), (1, .int (i32 x1)), (2, .int (i32 x2)), (3, .int (i32 x3)), (4, .int (i32 x4)), (5, .int (i32 x5))] [] 0
  unfold f_W_shift at hF
  refine vj_iload_n G (p9 := 1) d_W_shift_0 rfl rfl ?_
  obtain ⟨r1, M1, e1, hF⟩ := bnd_some hF
  refine vj_callS3 G (ct_W_isTape (gx_ij G) n x1 hx1 e1) q_938 cq_W_isTape rfl (by decide) (by decide) (Nat.le_of_ble_eq_true rfl) d_W_shift_1 rfl (fun hr1 => ?_)
  refine vj_if_eq G (tgt := 14) d_W_shift_4 (by decide) (ir_b hr1) (fun c2 => ?_) (fun c2 => ?_)
  · rw [if_pos c2] at hF
    refine vj_iconst G (v := (-1)) d_W_shift_14 rfl ?_
    cases hF
    exact vj_iret G0 ic_m1 d_W_shift_15
  · rw [if_neg c2] at hF
    refine vj_iload_n G (p9 := 3) d_W_shift_7 rfl rfl ?_
    obtain ⟨r3, M3, e3, hF⟩ := bnd_some hF
    refine vj_callS3 G (ct_W_isTape (gx_ij G) n x3 hx3 e3) q_938 cq_W_isTape rfl (by decide) (by decide) (Nat.le_of_ble_eq_true rfl) d_W_shift_8 rfl (fun hr3 => ?_)
    refine vj_if_ne G (tgt := 16) d_W_shift_11 (by decide) (ir_b hr3) (fun c4 => ?_) (fun c4 => ?_)
    · rw [if_pos c4] at hF
      refine vj_aload_n G (p9 := 0) d_W_shift_16 rfl rfl ?_
      refine gfC_W_62 G d_W_shift_17 ?_
      refine vj_iload_n G (p9 := 1) d_W_shift_20 rfl rfl ?_
      obtain ⟨c5, hF⟩ := ck_some hF
      refine vj_iald G (x := x1) lkC_13 (by decide) c5 d_W_shift_21 ?_
      refine vj_mr (fun hM6 => ?_)
      refine vj_iconst G (v := (-1)) d_W_shift_22 rfl ?_
      refine vj_icmp_eq G (tgt := 36) d_W_shift_23 (by decide) (mr_a hM6 lkC_13) ic_m1 (fun c7 => ?_) (fun c7 => ?_)
      · rw [if_pos c7] at hF
        refine vj_bipush G (v := (-11)) d_W_shift_36 rfl ?_
        cases hF
        exact vj_iret G0 ic_m11 d_W_shift_38
      · rw [if_neg c7] at hF
        refine vj_aload_n G (p9 := 0) d_W_shift_26 rfl rfl ?_
        refine gfC_W_62 G d_W_shift_27 ?_
        refine vj_iload_n G (p9 := 3) d_W_shift_30 rfl rfl ?_
        obtain ⟨c8, hF⟩ := ck_some hF
        refine vj_iald G (x := x3) lkC_13 (by decide) c8 d_W_shift_31 ?_
        refine vj_mr (fun hM9 => ?_)
        refine vj_iconst G (v := (-1)) d_W_shift_32 rfl ?_
        refine vj_icmp_ne G (tgt := 39) d_W_shift_33 (by decide) (mr_a hM9 lkC_13) ic_m1 (fun c10 => ?_) (fun c10 => ?_)
        · rw [if_pos c10] at hF
          refine vj_aload_n G (p9 := 0) d_W_shift_39 rfl rfl ?_
          refine gfC_W_62 G d_W_shift_40 ?_
          refine vj_iload_n G (p9 := 1) d_W_shift_43 rfl rfl ?_
          obtain ⟨c11, hF⟩ := ck_some hF
          refine vj_iald G (x := x1) lkC_13 (by decide) c11 d_W_shift_44 ?_
          refine vj_mr (fun hM12 => ?_)
          refine vj_aload_n G (p9 := 0) d_W_shift_45 rfl rfl ?_
          refine gfC_W_62 G d_W_shift_46 ?_
          refine vj_iload_n G (p9 := 3) d_W_shift_49 rfl rfl ?_
          obtain ⟨c13, hF⟩ := ck_some hF
          refine vj_iald G (x := x3) lkC_13 (by decide) c13 d_W_shift_50 ?_
          refine vj_icmp_eq G (tgt := 57) d_W_shift_51 (by decide) (mr_a hM12 lkC_13) (mr_a hM12 lkC_13) (fun c14 => ?_) (fun c14 => ?_)
          · rw [if_pos c14] at hF
            refine vj_aload_n G (p9 := 0) d_W_shift_57 rfl rfl ?_
            refine vj_iload_n G (p9 := 1) d_W_shift_58 rfl rfl ?_
            refine vj_iload_n G (p9 := 2) d_W_shift_59 rfl rfl ?_
            refine vj_iload G (p9 := 5) d_W_shift_60 rfl ?_
            obtain ⟨r15, M15, e15, hF⟩ := bnd_some hF
            refine vj_callV3 G (ct_W_hasPlaces (gx_ij G) n x1 x2 x5 hx1 hx2 hx5 e15) lkC_0 clC_6 rfl q_946 cq_W_hasPlaces rfl (by decide) (by decide) (Nat.le_of_ble_eq_true rfl) d_W_shift_62 rfl (fun hr15 => ?_)
            refine vj_if_eq G (tgt := 80) d_W_shift_65 (by decide) (ir_b hr15) (fun c16 => ?_) (fun c16 => ?_)
            · rw [if_pos c16] at hF
              refine vj_bipush G (v := (-13)) d_W_shift_80 rfl ?_
              cases hF
              exact vj_iret G0 ic_m13 d_W_shift_82
            · rw [if_neg c16] at hF
              refine vj_aload_n G (p9 := 0) d_W_shift_68 rfl rfl ?_
              refine vj_iload_n G (p9 := 3) d_W_shift_69 rfl rfl ?_
              refine vj_iload G (p9 := 4) d_W_shift_70 rfl ?_
              refine vj_iload G (p9 := 5) d_W_shift_72 rfl ?_
              obtain ⟨r17, M17, e17, hF⟩ := bnd_some hF
              refine vj_callV3 G (ct_W_hasPlaces (gx_ij G) n x3 x4 x5 hx3 hx4 hx5 e17) lkC_0 clC_6 rfl q_946 cq_W_hasPlaces rfl (by decide) (by decide) (Nat.le_of_ble_eq_true rfl) d_W_shift_74 rfl (fun hr17 => ?_)
              refine vj_if_ne G (tgt := 83) d_W_shift_77 (by decide) (ir_b hr17) (fun c18 => ?_) (fun c18 => ?_)
              · rw [if_pos c18] at hF
                refine vj_aload_n G (p9 := 0) d_W_shift_83 rfl rfl ?_
                refine gfC_W_70 G d_W_shift_84 ?_
                refine vj_iload_n G (p9 := 1) d_W_shift_87 rfl rfl ?_
                obtain ⟨c19, hF⟩ := ck_some hF
                refine vj_aald6 G (x := x1) lkC_15 (by decide) c19 d_W_shift_88 ?_
                refine vj_iload_n G (p9 := 2) d_W_shift_89 rfl rfl ?_
                refine vj_aload_n G (p9 := 0) d_W_shift_90 rfl rfl ?_
                refine gfC_W_70 G d_W_shift_91 ?_
                refine vj_iload_n G (p9 := 3) d_W_shift_94 rfl rfl ?_
                obtain ⟨c20, hF⟩ := ck_some hF
                refine vj_aald6 G (x := x3) lkC_15 (by decide) c20 d_W_shift_95 ?_
                refine vj_iload G (p9 := 4) d_W_shift_96 rfl ?_
                refine vj_iload G (p9 := 5) d_W_shift_98 rfl ?_
                obtain ⟨c21, hF⟩ := ck_some hF
                refine vj_acopyL G (lkC_r100 c19) (lkC_r100 c20) (by decide) (by decide) (k9_100 c20) (kh_100 c20) c21 q_1299 q_1076 q_1075 q_129 d_W_shift_100 ?_
                refine vj_iload G (p9 := 5) d_W_shift_103 rfl ?_
                cases hF
                exact vj_iret G0 hx5 d_W_shift_105
              · rw [if_neg c18] at hF
                refine vj_bipush G (v := (-13)) d_W_shift_80 rfl ?_
                cases hF
                exact vj_iret G0 ic_m13 d_W_shift_82
          · rw [if_neg c14] at hF
            refine vj_bipush G (v := (-12)) d_W_shift_54 rfl ?_
            cases hF
            exact vj_iret G0 ic_m12 d_W_shift_56
        · rw [if_neg c10] at hF
          refine vj_bipush G (v := (-11)) d_W_shift_36 rfl ?_
          cases hF
          exact vj_iret G0 ic_m11 d_W_shift_38
    · rw [if_neg c4] at hF
      refine vj_iconst G (v := (-1)) d_W_shift_14 rfl ?_
      cases hF
      exact vj_iret G0 ic_m1 d_W_shift_15
