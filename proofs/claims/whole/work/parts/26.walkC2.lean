/-! Written by wip/whole/gen. Walks. -/
set_option maxHeartbeats 4000000 in
set_option maxRecDepth 100000 in
theorem wl_F_putInOrder_5 {w : Wd} {X : Cx} {r : Int} {M9 : Mm} (G0 : Gx LC w X "WhoRules$Flow" b_F_putInOrder 6 0 0 (some .int)) (n : Nat) : ∀ (f : Nat) (x1 x2 x3 x4 : Int) (hx1 : inR x1) (hx2 : inR x2) (hx3 : inR x3) (hx4 : inR x4) (M : Mm), lp_F_putInOrder_5 n f x1 x2 x3 x4 M = some (r, M9) → VJ LC w X 6 1 r M9 M [(0, .ref (wa w 5)), (1, .int (i32 x1)), (2, .int (i32 x2)), (3, .int (i32 x3)), (4, .int (i32 x4))] [] 5 := by
  intro f
  induction f with
  | zero => intro x1 x2 x3 x4 hx1 hx2 hx3 hx4 M hF; cases hF
  | succ f ih => intro x1 x2 x3 x4 hx1 hx2 hx3 hx4 M hF; exact wk_F_putInOrder_5 G0 n (lp_F_putInOrder_5 n f) ih x1 x2 x3 x4 hx1 hx2 hx3 hx4 M hF
set_option maxHeartbeats 4000000 in
set_option maxRecDepth 100000 in
theorem ct_F_putInOrder {w : Wd} (hij : ij LC w) (n : Nat) (x1 x2 : Int) (hx1 : inR x1) (hx2 : inR x2) {M : Mm} {r : Int} {M9 : Mm} (hF : f_F_putInOrder n x1 x2 M = some (r, M9)) : Ct LC w y_F_putInOrder b_F_putInOrder 6 (some .int) 0 0 1 [.ref (wa w 5), .int (i32 x1), .int (i32 x2)] M r M9 := by
  refine Ct.of hij KstC (by decide +kernel) (Nat.le_of_ble_eq_true rfl) (fun X G0 => ?_)
  have G := G0.1
  show VJ LC w X 6 1 r M9 M [(0, .ref (wa w 5)), (1, .int (i32 x1)), (2, .int (i32 x2))] [] 0
  unfold f_F_putInOrder at hF
  refine vj_iconst G (v := 0) d_F_putInOrder_0 rfl ?_
  refine vj_istore_n G (lv2 := [(3, .int (i32 0)), (0, .ref (wa w 5)), (1, .int (i32 x1)), (2, .int (i32 x2))]) d_F_putInOrder_1 rfl (by decide) rfl ?_
  refine vj_iconst G (v := 0) d_F_putInOrder_2 rfl ?_
  refine vj_istore G (lv2 := [(4, .int (i32 0)), (3, .int (i32 0)), (0, .ref (wa w 5)), (1, .int (i32 x1)), (2, .int (i32 x2))]) d_F_putInOrder_3 (by decide) rfl ?_
  refine vj_sub [2, 3, 4, 1, 0] rfl ?_
  exact wl_F_putInOrder_5 G0 n  n x1 x2 0 0 hx1 hx2 ic_0 ic_0 _ hF
set_option maxHeartbeats 4000000 in
set_option maxRecDepth 100000 in
theorem wk_F_writeLines_36 {w : Wd} {X : Cx} {r : Int} {M9 : Mm} (G0 : Gx LC w X "WhoRules$Flow" b_F_writeLines 5 0 0 none) (n : Nat) (k2 : Int → Int → Int → Mm → Rr) (hk2 : ∀ (x1 x2 x3 : Int) (hx1 : inR x1) (hx2 : inR x2) (hx3 : inR x3) (M : Mm), k2 x1 x2 x3 M = some (r, M9) → VJ LC w X 5 0 r M9 M [(0, .ref (wa w 5)), (1, .int (i32 x1)), (2, .int (i32 x2)), (3, .int (i32 x3))] [] 2) (k10 : Int → Int → Int → Int → Mm → Rr) (hk10 : ∀ (x1 x2 x3 x4 : Int) (hx1 : inR x1) (hx2 : inR x2) (hx3 : inR x3) (hx4 : inR x4) (M : Mm), k10 x1 x2 x3 x4 M = some (r, M9) → VJ LC w X 5 0 r M9 M [(0, .ref (wa w 5)), (1, .int (i32 x1)), (2, .int (i32 x2)), (3, .int (i32 x3)), (4, .int (i32 x4))] [] 10) (x1 x2 x3 x4 s0 s1 s2 : Int) (hx1 : inR x1) (hx2 : inR x2) (hx3 : inR x3) (hx4 : inR x4) (hs0 : 0 ≤ s0 ∧ s0 < 7) (hs1 : inR s1) (hs2 : inR s2) (M : Mm) (hF : f_F_writeLines_36 n k2 k10 x1 x2 x3 x4 s0 s1 s2 M = some (r, M9)) : VJ LC w X 5 0 r M9 M [(0, .ref (wa w 5)), (1, .int (i32 x1)), (2, .int (i32 x2)), (3, .int (i32 x3)), (4, .int (i32 x4))] [.int (i32 s2), .int (i32 s1), .ref (wa w (200 + s0.toNat))] 36 := by
  have G := G0.1
  unfold f_F_writeLines_36 at hF
  refine vj_aload_n G (p9 := 0) d_F_writeLines_36 rfl rfl ?_
  refine gfC_F_11 G d_F_writeLines_37 ?_
  refine vj_aload_n G (p9 := 0) d_F_writeLines_40 rfl rfl ?_
  refine gfC_F_29 G d_F_writeLines_41 ?_
  refine vj_iload_n G (p9 := 3) d_F_writeLines_44 rfl rfl ?_
  obtain ⟨c1, hF⟩ := ck_some hF
  refine vj_iald G (x := x3) lkC_61 (by decide) c1 d_F_writeLines_45 ?_
  refine vj_mr (fun hM2 => ?_)
  obtain ⟨c3, hF⟩ := ck_some hF
  refine vj_aald5 G (x := (M 61 x3.toNat)) lkC_56 (by decide) c3 d_F_writeLines_46 ?_
  refine vj_aload_n G (p9 := 0) d_F_writeLines_47 rfl rfl ?_
  refine gfC_F_29 G d_F_writeLines_48 ?_
  refine vj_iload G (p9 := 4) d_F_writeLines_51 rfl ?_
  obtain ⟨c4, hF⟩ := ck_some hF
  refine vj_iald G (x := x4) lkC_61 (by decide) c4 d_F_writeLines_53 ?_
  obtain ⟨c5, hF⟩ := ck_some hF
  refine vj_iald G (x := (M 61 x4.toNat)) (lkC_r180 c3) (by decide) c5 d_F_writeLines_54 ?_
  refine vj_isub G d_F_writeLines_55 ?_
  refine vj_i2l G d_F_writeLines_56 (ir_w _) ?_
  obtain ⟨c6, hF⟩ := ck_some hF
  refine vj_last G (x := s1) (lkC_r200 hs0) (by decide) (k9_200 hs0) (kh_200 hs0) c6 (lr_i (ir_w _)) d_F_writeLines_57 ?_
  refine vj_iinc G (p9 := 4) (n := 1) (lv2 := [(4, .int (i32 (w32 (x4 + 1)))), (0, .ref (wa w 5)), (1, .int (i32 x1)), (2, .int (i32 x2)), (3, .int (i32 x3))]) d_F_writeLines_58 rfl (by decide) rfl ?_
  refine vj_goto G (tgt := 10) d_F_writeLines_61 (by decide) ?_
  refine vj_sub [1, 2, 3, 4, 0] rfl ?_
  exact hk10 x1 x2 x3 (w32 (x4 + 1)) hx1 hx2 hx3 (ir_w _) _ hF
set_option maxHeartbeats 4000000 in
set_option maxRecDepth 100000 in
theorem wk_F_writeLines_10 {w : Wd} {X : Cx} {r : Int} {M9 : Mm} (G0 : Gx LC w X "WhoRules$Flow" b_F_writeLines 5 0 0 none) (n : Nat) (k2 : Int → Int → Int → Mm → Rr) (hk2 : ∀ (x1 x2 x3 : Int) (hx1 : inR x1) (hx2 : inR x2) (hx3 : inR x3) (M : Mm), k2 x1 x2 x3 M = some (r, M9) → VJ LC w X 5 0 r M9 M [(0, .ref (wa w 5)), (1, .int (i32 x1)), (2, .int (i32 x2)), (3, .int (i32 x3))] [] 2) (k10 : Int → Int → Int → Int → Mm → Rr) (hk10 : ∀ (x1 x2 x3 x4 : Int) (hx1 : inR x1) (hx2 : inR x2) (hx3 : inR x3) (hx4 : inR x4) (M : Mm), k10 x1 x2 x3 x4 M = some (r, M9) → VJ LC w X 5 0 r M9 M [(0, .ref (wa w 5)), (1, .int (i32 x1)), (2, .int (i32 x2)), (3, .int (i32 x3)), (4, .int (i32 x4))] [] 10) (x1 x2 x3 x4 : Int) (hx1 : inR x1) (hx2 : inR x2) (hx3 : inR x3) (hx4 : inR x4) (M : Mm) (hF : f_F_writeLines_10 n k2 k10 x1 x2 x3 x4 M = some (r, M9)) : VJ LC w X 5 0 r M9 M [(0, .ref (wa w 5)), (1, .int (i32 x1)), (2, .int (i32 x2)), (3, .int (i32 x3)), (4, .int (i32 x4))] [] 10 := by
  have G := G0.1
  unfold f_F_writeLines_10 at hF
  refine vj_iload G (p9 := 4) d_F_writeLines_10 rfl ?_
  refine vj_iload_n G (p9 := 1) d_F_writeLines_12 rfl rfl ?_
  refine vj_icmp_ge G (tgt := 64) d_F_writeLines_13 (by decide) hx4 hx1 (fun c1 => ?_) (fun c1 => ?_)
  · rw [if_pos c1] at hF
    refine vj_aload_n G (p9 := 0) d_F_writeLines_64 rfl rfl ?_
    refine gfC_F_34 G d_F_writeLines_65 ?_
    refine vj_iload_n G (p9 := 3) d_F_writeLines_68 rfl rfl ?_
    obtain ⟨c2, hF⟩ := ck_some hF
    refine vj_aald6 G (x := x3) lkC_62 (by decide) c2 d_F_writeLines_69 ?_
    refine vj_iload_n G (p9 := 1) d_F_writeLines_70 rfl rfl ?_
    refine vj_aload_n G (p9 := 0) d_F_writeLines_71 rfl rfl ?_
    refine gfC_F_11 G d_F_writeLines_72 ?_
    refine vj_aload_n G (p9 := 0) d_F_writeLines_75 rfl rfl ?_
    refine gfC_F_29 G d_F_writeLines_76 ?_
    refine vj_iload_n G (p9 := 3) d_F_writeLines_79 rfl rfl ?_
    obtain ⟨c3, hF⟩ := ck_some hF
    refine vj_iald G (x := x3) lkC_61 (by decide) c3 d_F_writeLines_80 ?_
    refine vj_mr (fun hM4 => ?_)
    obtain ⟨c5, hF⟩ := ck_some hF
    refine vj_aald5 G (x := (M 61 x3.toNat)) lkC_56 (by decide) c5 d_F_writeLines_81 ?_
    refine vj_iload_n G (p9 := 2) d_F_writeLines_82 rfl rfl ?_
    obtain ⟨c6, hF⟩ := ck_some hF
    refine vj_iald G (x := x2) (lkC_r180 c5) (by decide) c6 d_F_writeLines_83 ?_
    refine vj_i2l G d_F_writeLines_84 (mr_a hM4 (lkC_r180 c5)) ?_
    obtain ⟨c7, hF⟩ := ck_some hF
    refine vj_last G (x := x1) (lkC_r200 c2) (by decide) (k9_200 c2) (kh_200 c2) c7 (lr_i (mr_a hM4 (lkC_r180 c5))) d_F_writeLines_85 ?_
    refine vj_iinc G (p9 := 3) (n := 1) (lv2 := [(3, .int (i32 (w32 (x3 + 1)))), (0, .ref (wa w 5)), (1, .int (i32 x1)), (2, .int (i32 x2)), (4, .int (i32 x4))]) d_F_writeLines_86 rfl (by decide) rfl ?_
    refine vj_goto G (tgt := 2) d_F_writeLines_89 (by decide) ?_
    refine vj_sub [1, 2, 3, 0] rfl ?_
    exact hk2 x1 x2 (w32 (x3 + 1)) hx1 hx2 (ir_w _) _ hF
  · rw [if_neg c1] at hF
    refine vj_aload_n G (p9 := 0) d_F_writeLines_16 rfl rfl ?_
    refine gfC_F_34 G d_F_writeLines_17 ?_
    refine vj_iload_n G (p9 := 3) d_F_writeLines_20 rfl rfl ?_
    obtain ⟨c8, hF⟩ := ck_some hF
    refine vj_aald6 G (x := x3) lkC_62 (by decide) c8 d_F_writeLines_21 ?_
    refine vj_iload G (p9 := 4) d_F_writeLines_22 rfl ?_
    refine vj_iload_n G (p9 := 3) d_F_writeLines_24 rfl rfl ?_
    refine vj_iload G (p9 := 4) d_F_writeLines_25 rfl ?_
    refine vj_icmp_ne G (tgt := 35) d_F_writeLines_27 (by decide) hx3 hx4 (fun c9 => ?_) (fun c9 => ?_)
    · rw [if_pos c9] at hF
      refine vj_iconst G (v := 0) d_F_writeLines_35 rfl ?_
      exact wk_F_writeLines_36 G0 n k2 hk2 k10 hk10 x1 x2 x3 x4 x3 x4 0 hx1 hx2 hx3 hx4 c8 hx4 ic_0 _ hF
    · rw [if_neg c9] at hF
      refine vj_bipush G (v := 12) d_F_writeLines_30 rfl ?_
      refine vj_goto G (tgt := 36) d_F_writeLines_32 (by decide) ?_
      exact wk_F_writeLines_36 G0 n k2 hk2 k10 hk10 x1 x2 x3 x4 x3 x4 12 hx1 hx2 hx3 hx4 c8 hx4 ic_12 _ hF
set_option maxHeartbeats 4000000 in
set_option maxRecDepth 100000 in
theorem wl_F_writeLines_10 {w : Wd} {X : Cx} {r : Int} {M9 : Mm} (G0 : Gx LC w X "WhoRules$Flow" b_F_writeLines 5 0 0 none) (n : Nat) (k2 : Int → Int → Int → Mm → Rr) (hk2 : ∀ (x1 x2 x3 : Int) (hx1 : inR x1) (hx2 : inR x2) (hx3 : inR x3) (M : Mm), k2 x1 x2 x3 M = some (r, M9) → VJ LC w X 5 0 r M9 M [(0, .ref (wa w 5)), (1, .int (i32 x1)), (2, .int (i32 x2)), (3, .int (i32 x3))] [] 2) : ∀ (f : Nat) (x1 x2 x3 x4 : Int) (hx1 : inR x1) (hx2 : inR x2) (hx3 : inR x3) (hx4 : inR x4) (M : Mm), lp_F_writeLines_10 n k2 f x1 x2 x3 x4 M = some (r, M9) → VJ LC w X 5 0 r M9 M [(0, .ref (wa w 5)), (1, .int (i32 x1)), (2, .int (i32 x2)), (3, .int (i32 x3)), (4, .int (i32 x4))] [] 10 := by
  intro f
  induction f with
  | zero => intro x1 x2 x3 x4 hx1 hx2 hx3 hx4 M hF; cases hF
  | succ f ih => intro x1 x2 x3 x4 hx1 hx2 hx3 hx4 M hF; exact wk_F_writeLines_10 G0 n k2 hk2 (lp_F_writeLines_10 n k2 f) ih x1 x2 x3 x4 hx1 hx2 hx3 hx4 M hF
set_option maxHeartbeats 4000000 in
set_option maxRecDepth 100000 in
theorem wk_F_writeLines_2 {w : Wd} {X : Cx} {r : Int} {M9 : Mm} (G0 : Gx LC w X "WhoRules$Flow" b_F_writeLines 5 0 0 none) (n : Nat) (k2 : Int → Int → Int → Mm → Rr) (hk2 : ∀ (x1 x2 x3 : Int) (hx1 : inR x1) (hx2 : inR x2) (hx3 : inR x3) (M : Mm), k2 x1 x2 x3 M = some (r, M9) → VJ LC w X 5 0 r M9 M [(0, .ref (wa w 5)), (1, .int (i32 x1)), (2, .int (i32 x2)), (3, .int (i32 x3))] [] 2) (x1 x2 x3 : Int) (hx1 : inR x1) (hx2 : inR x2) (hx3 : inR x3) (M : Mm) (hF : f_F_writeLines_2 n k2 x1 x2 x3 M = some (r, M9)) : VJ LC w X 5 0 r M9 M [(0, .ref (wa w 5)), (1, .int (i32 x1)), (2, .int (i32 x2)), (3, .int (i32 x3))] [] 2 := by
  have G := G0.1
  unfold f_F_writeLines_2 at hF
  refine vj_iload_n G (p9 := 3) d_F_writeLines_2 rfl rfl ?_
  refine vj_iload_n G (p9 := 1) d_F_writeLines_3 rfl rfl ?_
  refine vj_icmp_ge G (tgt := 92) d_F_writeLines_4 (by decide) hx3 hx1 (fun c1 => ?_) (fun c1 => ?_)
  · rw [if_pos c1] at hF
    cases hF
    exact vj_vret G0 d_F_writeLines_92
  · rw [if_neg c1] at hF
    refine vj_iconst G (v := 0) d_F_writeLines_7 rfl ?_
    refine vj_istore G (lv2 := [(4, .int (i32 0)), (0, .ref (wa w 5)), (1, .int (i32 x1)), (2, .int (i32 x2)), (3, .int (i32 x3))]) d_F_writeLines_8 (by decide) rfl ?_
    refine vj_sub [1, 2, 3, 4, 0] rfl ?_
    exact wl_F_writeLines_10 G0 n k2 hk2 n x1 x2 x3 0 hx1 hx2 hx3 ic_0 _ hF
set_option maxHeartbeats 4000000 in
set_option maxRecDepth 100000 in
theorem wl_F_writeLines_2 {w : Wd} {X : Cx} {r : Int} {M9 : Mm} (G0 : Gx LC w X "WhoRules$Flow" b_F_writeLines 5 0 0 none) (n : Nat) : ∀ (f : Nat) (x1 x2 x3 : Int) (hx1 : inR x1) (hx2 : inR x2) (hx3 : inR x3) (M : Mm), lp_F_writeLines_2 n f x1 x2 x3 M = some (r, M9) → VJ LC w X 5 0 r M9 M [(0, .ref (wa w 5)), (1, .int (i32 x1)), (2, .int (i32 x2)), (3, .int (i32 x3))] [] 2 := by
  intro f
  induction f with
  | zero => intro x1 x2 x3 hx1 hx2 hx3 M hF; cases hF
  | succ f ih => intro x1 x2 x3 hx1 hx2 hx3 M hF; exact wk_F_writeLines_2 G0 n (lp_F_writeLines_2 n f) ih x1 x2 x3 hx1 hx2 hx3 M hF
set_option maxHeartbeats 4000000 in
set_option maxRecDepth 100000 in
theorem ct_F_writeLines {w : Wd} (hij : ij LC w) (n : Nat) (x1 x2 : Int) (hx1 : inR x1) (hx2 : inR x2) {M : Mm} {r : Int} {M9 : Mm} (hF : f_F_writeLines n x1 x2 M = some (r, M9)) : Ct LC w y_F_writeLines b_F_writeLines 5 none 0 0 0 [.ref (wa w 5), .int (i32 x1), .int (i32 x2)] M r M9 := by
  refine Ct.of hij KstC (by decide +kernel) (Nat.le_of_ble_eq_true rfl) (fun X G0 => ?_)
  have G := G0.1
  show VJ LC w X 5 0 r M9 M [(0, .ref (wa w 5)), (1, .int (i32 x1)), (2, .int (i32 x2))] [] 0
  unfold f_F_writeLines at hF
  refine vj_iconst G (v := 0) d_F_writeLines_0 rfl ?_
  refine vj_istore_n G (lv2 := [(3, .int (i32 0)), (0, .ref (wa w 5)), (1, .int (i32 x1)), (2, .int (i32 x2))]) d_F_writeLines_1 rfl (by decide) rfl ?_
  refine vj_sub [1, 2, 3, 0] rfl ?_
  exact wl_F_writeLines_2 G0 n  n x1 x2 0 hx1 hx2 ic_0 _ hF
set_option maxHeartbeats 4000000 in
set_option maxRecDepth 100000 in
theorem wk_F_eliminate_105 {w : Wd} {X : Cx} {r : Int} {M9 : Mm} (G0 : Gx LC w X "WhoRules$Flow" b_F_eliminate 9 0 0 none) (n : Nat) (k5 : Int → Int → Int → Mm → Rr) (hk5 : ∀ (x1 x2 x4 : Int) (hx1 : inR x1) (hx2 : in64 x2) (hx4 : inR x4) (M : Mm), k5 x1 x2 x4 M = some (r, M9) → VJ LC w X 9 0 r M9 M [(0, .ref (wa w 5)), (1, .int (i32 x1)), (2, .long (i64 x2)), (4, .int (i32 x4))] [] 5) (k19 : Int → Int → Int → Int → Mm → Rr) (hk19 : ∀ (x1 x2 x4 x5 : Int) (hx1 : inR x1) (hx2 : in64 x2) (hx4 : inR x4) (hx5 : inR x5) (M : Mm), k19 x1 x2 x4 x5 M = some (r, M9) → VJ LC w X 9 0 r M9 M [(0, .ref (wa w 5)), (1, .int (i32 x1)), (2, .long (i64 x2)), (4, .int (i32 x4)), (5, .int (i32 x5))] [] 19) (k31 : Int → Int → Int → Int → Int → Mm → Rr) (hk31 : ∀ (x1 x2 x4 x5 x6 : Int) (hx1 : inR x1) (hx2 : in64 x2) (hx4 : inR x4) (hx5 : inR x5) (hx6 : inR x6) (M : Mm), k31 x1 x2 x4 x5 x6 M = some (r, M9) → VJ LC w X 9 0 r M9 M [(0, .ref (wa w 5)), (1, .int (i32 x1)), (2, .long (i64 x2)), (4, .int (i32 x4)), (5, .int (i32 x5)), (6, .int (i32 x6))] [] 31) (x1 x2 x4 x5 x6 s0 s1 s2 : Int) (hx1 : inR x1) (hx2 : in64 x2) (hx4 : inR x4) (hx5 : inR x5) (hx6 : inR x6) (hs0 : 0 ≤ s0 ∧ s0 < 7) (hs1 : inR s1) (hs2 : in64 s2) (M : Mm) (hF : f_F_eliminate_105 n k5 k19 k31 x1 x2 x4 x5 x6 s0 s1 s2 M = some (r, M9)) : VJ LC w X 9 0 r M9 M [(0, .ref (wa w 5)), (1, .int (i32 x1)), (2, .long (i64 x2)), (4, .int (i32 x4)), (5, .int (i32 x5)), (6, .int (i32 x6))] [.long (i64 s2), .int (i32 s1), .ref (wa w (200 + s0.toNat))] 105 := by
  have G := G0.1
  unfold f_F_eliminate_105 at hF
  obtain ⟨c1, hF⟩ := ck_some hF
  refine vj_last G (x := s1) (lkC_r200 hs0) (by decide) (k9_200 hs0) (kh_200 hs0) c1 hs2 d_F_eliminate_105 ?_
  refine vj_iinc G (p9 := 5) (n := 1) (lv2 := [(6, .int (i32 (w32 (x6 + 1)))), (0, .ref (wa w 5)), (1, .int (i32 x1)), (2, .long (i64 x2)), (4, .int (i32 x4)), (5, .int (i32 x5))]) d_F_eliminate_106 rfl (by decide) rfl ?_
  refine vj_goto G (tgt := 31) d_F_eliminate_109 (by decide) ?_
  refine vj_sub [1, 2, 3, 4, 5, 0] rfl ?_
  exact hk31 x1 x2 x4 x5 (w32 (x6 + 1)) hx1 hx2 hx4 hx5 (ir_w _) _ hF
set_option maxHeartbeats 4000000 in
set_option maxRecDepth 100000 in
theorem wk_F_eliminate_31 {w : Wd} {X : Cx} {r : Int} {M9 : Mm} (G0 : Gx LC w X "WhoRules$Flow" b_F_eliminate 9 0 0 none) (n : Nat) (k5 : Int → Int → Int → Mm → Rr) (hk5 : ∀ (x1 x2 x4 : Int) (hx1 : inR x1) (hx2 : in64 x2) (hx4 : inR x4) (M : Mm), k5 x1 x2 x4 M = some (r, M9) → VJ LC w X 9 0 r M9 M [(0, .ref (wa w 5)), (1, .int (i32 x1)), (2, .long (i64 x2)), (4, .int (i32 x4))] [] 5) (k19 : Int → Int → Int → Int → Mm → Rr) (hk19 : ∀ (x1 x2 x4 x5 : Int) (hx1 : inR x1) (hx2 : in64 x2) (hx4 : inR x4) (hx5 : inR x5) (M : Mm), k19 x1 x2 x4 x5 M = some (r, M9) → VJ LC w X 9 0 r M9 M [(0, .ref (wa w 5)), (1, .int (i32 x1)), (2, .long (i64 x2)), (4, .int (i32 x4)), (5, .int (i32 x5))] [] 19) (k31 : Int → Int → Int → Int → Int → Mm → Rr) (hk31 : ∀ (x1 x2 x4 x5 x6 : Int) (hx1 : inR x1) (hx2 : in64 x2) (hx4 : inR x4) (hx5 : inR x5) (hx6 : inR x6) (M : Mm), k31 x1 x2 x4 x5 x6 M = some (r, M9) → VJ LC w X 9 0 r M9 M [(0, .ref (wa w 5)), (1, .int (i32 x1)), (2, .long (i64 x2)), (4, .int (i32 x4)), (5, .int (i32 x5)), (6, .int (i32 x6))] [] 31) (x1 x2 x4 x5 x6 : Int) (hx1 : inR x1) (hx2 : in64 x2) (hx4 : inR x4) (hx5 : inR x5) (hx6 : inR x6) (M : Mm) (hF : f_F_eliminate_31 n k5 k19 k31 x1 x2 x4 x5 x6 M = some (r, M9)) : VJ LC w X 9 0 r M9 M [(0, .ref (wa w 5)), (1, .int (i32 x1)), (2, .long (i64 x2)), (4, .int (i32 x4)), (5, .int (i32 x5)), (6, .int (i32 x6))] [] 31 := by
  have G := G0.1
  unfold f_F_eliminate_31 at hF
  refine vj_iload G (p9 := 5) d_F_eliminate_31 rfl ?_
  refine vj_iload_n G (p9 := 1) d_F_eliminate_33 rfl rfl ?_
  refine vj_icmp_gt G (tgt := 112) d_F_eliminate_34 (by decide) hx6 hx1 (fun c1 => ?_) (fun c1 => ?_)
  · rw [if_pos c1] at hF
    refine vj_iinc G (p9 := 4) (n := 1) (lv2 := [(5, .int (i32 (w32 (x5 + 1)))), (0, .ref (wa w 5)), (1, .int (i32 x1)), (2, .long (i64 x2)), (4, .int (i32 x4)), (6, .int (i32 x6))]) d_F_eliminate_112 rfl (by decide) rfl ?_
    refine vj_goto G (tgt := 19) d_F_eliminate_115 (by decide) ?_
    refine vj_sub [1, 2, 3, 4, 0] rfl ?_
    exact hk19 x1 x2 x4 (w32 (x5 + 1)) hx1 hx2 hx4 (ir_w _) _ hF
  · rw [if_neg c1] at hF
    refine vj_aload_n G (p9 := 0) d_F_eliminate_37 rfl rfl ?_
    refine gfC_F_34 G d_F_eliminate_38 ?_
    refine vj_iload G (p9 := 3) d_F_eliminate_41 rfl ?_
    obtain ⟨c2, hF⟩ := ck_some hF
    refine vj_aald6 G (x := x4) lkC_62 (by decide) c2 d_F_eliminate_43 ?_
    refine vj_iload G (p9 := 3) d_F_eliminate_44 rfl ?_
    obtain ⟨c3, hF⟩ := ck_some hF
    refine vj_lald G (x := x4) (lkC_r200 c2) (by decide) c3 d_F_eliminate_46 ?_
    refine vj_mr (fun hM4 => ?_)
    refine vj_aload_n G (p9 := 0) d_F_eliminate_47 rfl rfl ?_
    refine gfC_F_34 G d_F_eliminate_48 ?_
    refine vj_iload G (p9 := 4) d_F_eliminate_51 rfl ?_
    obtain ⟨c5, hF⟩ := ck_some hF
    refine vj_aald6 G (x := x5) lkC_62 (by decide) c5 d_F_eliminate_53 ?_
    refine vj_iload G (p9 := 5) d_F_eliminate_54 rfl ?_
    obtain ⟨c6, hF⟩ := ck_some hF
    refine vj_lald G (x := x6) (lkC_r200 c5) (by decide) c6 d_F_eliminate_56 ?_
    refine vj_lmul G d_F_eliminate_57 ?_
    refine vj_aload_n G (p9 := 0) d_F_eliminate_58 rfl rfl ?_
    refine gfC_F_34 G d_F_eliminate_59 ?_
    refine vj_iload G (p9 := 4) d_F_eliminate_62 rfl ?_
    obtain ⟨c7, hF⟩ := ck_some hF
    refine vj_aald6 G (x := x5) lkC_62 (by decide) c7 d_F_eliminate_64 ?_
    refine vj_iload G (p9 := 3) d_F_eliminate_65 rfl ?_
    obtain ⟨c8, hF⟩ := ck_some hF
    refine vj_lald G (x := x4) (lkC_r200 c7) (by decide) c8 d_F_eliminate_67 ?_
    refine vj_aload_n G (p9 := 0) d_F_eliminate_68 rfl rfl ?_
    refine gfC_F_34 G d_F_eliminate_69 ?_
    refine vj_iload G (p9 := 3) d_F_eliminate_72 rfl ?_
    obtain ⟨c9, hF⟩ := ck_some hF
    refine vj_aald6 G (x := x4) lkC_62 (by decide) c9 d_F_eliminate_74 ?_
    refine vj_iload G (p9 := 5) d_F_eliminate_75 rfl ?_
    obtain ⟨c10, hF⟩ := ck_some hF
    refine vj_lald G (x := x6) (lkC_r200 c9) (by decide) c10 d_F_eliminate_77 ?_
    refine vj_lmul G d_F_eliminate_78 ?_
    refine vj_lsub G d_F_eliminate_79 ?_
    refine vj_lstore G (lv2 := [(7, .long (i64 (w64 ((w64 ((M (200 + x4.toNat) x4.toNat) * (M (200 + x5.toNat) x6.toNat))) - (w64 ((M (200 + x5.toNat) x4.toNat) * (M (200 + x4.toNat) x6.toNat))))))), (0, .ref (wa w 5)), (1, .int (i32 x1)), (2, .long (i64 x2)), (4, .int (i32 x4)), (5, .int (i32 x5)), (6, .int (i32 x6))]) d_F_eliminate_80 (by decide) rfl ?_
    refine vj_aload_n G (p9 := 1) d_F_eliminate_82 rfl rfl ?_
    refine gfC_F_34 G d_F_eliminate_83 ?_
    refine vj_iload G (p9 := 5) d_F_eliminate_86 rfl ?_
    obtain ⟨c11, hF⟩ := ck_some hF
    refine vj_aald6 G (x := x5) lkC_62 (by decide) c11 d_F_eliminate_88 ?_
    refine vj_iload G (p9 := 6) d_F_eliminate_89 rfl ?_
    refine vj_lload_n G (p9 := 3) d_F_eliminate_91 rfl rfl ?_
    refine vj_lconst G (v := 0) d_F_eliminate_92 rfl ?_
    refine vj_lcmp_ne G (tgt := 101) d_F_eliminate_93 d_F_eliminate_94 (by decide) hx2 (lr_i ic_0) (fun c12 => ?_) (fun c12 => ?_)
    · rw [if_pos c12] at hF
      refine vj_lload G (p9 := 0) d_F_eliminate_101 rfl ?_
      refine vj_lload_n G (p9 := 3) d_F_eliminate_103 rfl rfl ?_
      obtain ⟨c13, hF⟩ := ck_some hF
      refine vj_ldiv G d_F_eliminate_104 hx2 c13 ?_
      refine vj_sub [1, 2, 3, 4, 5, 6] rfl ?_
      exact wk_F_eliminate_105 G0 n k5 hk5 k19 hk19 k31 hk31 x1 x2 x4 x5 x6 x5 x6 (ldv (w64 ((w64 ((M (200 + x4.toNat) x4.toNat) * (M (200 + x5.toNat) x6.toNat))) - (w64 ((M (200 + x5.toNat) x4.toNat) * (M (200 + x4.toNat) x6.toNat))))) x2) hx1 hx2 hx4 hx5 hx6 c11 hx6 (lr_dv _ _) _ hF
    · rw [if_neg c12] at hF
      refine vj_lconst G (v := 0) d_F_eliminate_97 rfl ?_
      refine vj_goto G (tgt := 105) d_F_eliminate_98 (by decide) ?_
      refine vj_sub [1, 2, 3, 4, 5, 6] rfl ?_
      exact wk_F_eliminate_105 G0 n k5 hk5 k19 hk19 k31 hk31 x1 x2 x4 x5 x6 x5 x6 0 hx1 hx2 hx4 hx5 hx6 c11 hx6 (lr_i ic_0) _ hF
set_option maxHeartbeats 4000000 in
set_option maxRecDepth 100000 in
theorem wl_F_eliminate_31 {w : Wd} {X : Cx} {r : Int} {M9 : Mm} (G0 : Gx LC w X "WhoRules$Flow" b_F_eliminate 9 0 0 none) (n : Nat) (k5 : Int → Int → Int → Mm → Rr) (hk5 : ∀ (x1 x2 x4 : Int) (hx1 : inR x1) (hx2 : in64 x2) (hx4 : inR x4) (M : Mm), k5 x1 x2 x4 M = some (r, M9) → VJ LC w X 9 0 r M9 M [(0, .ref (wa w 5)), (1, .int (i32 x1)), (2, .long (i64 x2)), (4, .int (i32 x4))] [] 5) (k19 : Int → Int → Int → Int → Mm → Rr) (hk19 : ∀ (x1 x2 x4 x5 : Int) (hx1 : inR x1) (hx2 : in64 x2) (hx4 : inR x4) (hx5 : inR x5) (M : Mm), k19 x1 x2 x4 x5 M = some (r, M9) → VJ LC w X 9 0 r M9 M [(0, .ref (wa w 5)), (1, .int (i32 x1)), (2, .long (i64 x2)), (4, .int (i32 x4)), (5, .int (i32 x5))] [] 19) : ∀ (f : Nat) (x1 x2 x4 x5 x6 : Int) (hx1 : inR x1) (hx2 : in64 x2) (hx4 : inR x4) (hx5 : inR x5) (hx6 : inR x6) (M : Mm), lp_F_eliminate_31 n k5 k19 f x1 x2 x4 x5 x6 M = some (r, M9) → VJ LC w X 9 0 r M9 M [(0, .ref (wa w 5)), (1, .int (i32 x1)), (2, .long (i64 x2)), (4, .int (i32 x4)), (5, .int (i32 x5)), (6, .int (i32 x6))] [] 31 := by
  intro f
  induction f with
  | zero => intro x1 x2 x4 x5 x6 hx1 hx2 hx4 hx5 hx6 M hF; cases hF
  | succ f ih => intro x1 x2 x4 x5 x6 hx1 hx2 hx4 hx5 hx6 M hF; exact wk_F_eliminate_31 G0 n k5 hk5 k19 hk19 (lp_F_eliminate_31 n k5 k19 f) ih x1 x2 x4 x5 x6 hx1 hx2 hx4 hx5 hx6 M hF
set_option maxHeartbeats 4000000 in
set_option maxRecDepth 100000 in
theorem wk_F_eliminate_19 {w : Wd} {X : Cx} {r : Int} {M9 : Mm} (G0 : Gx LC w X "WhoRules$Flow" b_F_eliminate 9 0 0 none) (n : Nat) (k5 : Int → Int → Int → Mm → Rr) (hk5 : ∀ (x1 x2 x4 : Int) (hx1 : inR x1) (hx2 : in64 x2) (hx4 : inR x4) (M : Mm), k5 x1 x2 x4 M = some (r, M9) → VJ LC w X 9 0 r M9 M [(0, .ref (wa w 5)), (1, .int (i32 x1)), (2, .long (i64 x2)), (4, .int (i32 x4))] [] 5) (k19 : Int → Int → Int → Int → Mm → Rr) (hk19 : ∀ (x1 x2 x4 x5 : Int) (hx1 : inR x1) (hx2 : in64 x2) (hx4 : inR x4) (hx5 : inR x5) (M : Mm), k19 x1 x2 x4 x5 M = some (r, M9) → VJ LC w X 9 0 r M9 M [(0, .ref (wa w 5)), (1, .int (i32 x1)), (2, .long (i64 x2)), (4, .int (i32 x4)), (5, .int (i32 x5))] [] 19) (x1 x2 x4 x5 : Int) (hx1 : inR x1) (hx2 : in64 x2) (hx4 : inR x4) (hx5 : inR x5) (M : Mm) (hF : f_F_eliminate_19 n k5 k19 x1 x2 x4 x5 M = some (r, M9)) : VJ LC w X 9 0 r M9 M [(0, .ref (wa w 5)), (1, .int (i32 x1)), (2, .long (i64 x2)), (4, .int (i32 x4)), (5, .int (i32 x5))] [] 19 := by
  have G := G0.1
  unfold f_F_eliminate_19 at hF
  refine vj_iload G (p9 := 4) d_F_eliminate_19 rfl ?_
  refine vj_iload_n G (p9 := 1) d_F_eliminate_21 rfl rfl ?_
  refine vj_icmp_ge G (tgt := 118) d_F_eliminate_22 (by decide) hx5 hx1 (fun c1 => ?_) (fun c1 => ?_)
  · rw [if_pos c1] at hF
    refine vj_aload_n G (p9 := 0) d_F_eliminate_118 rfl rfl ?_
    refine gfC_F_34 G d_F_eliminate_119 ?_
    refine vj_iload G (p9 := 3) d_F_eliminate_122 rfl ?_
    obtain ⟨c2, hF⟩ := ck_some hF
    refine vj_aald6 G (x := x4) lkC_62 (by decide) c2 d_F_eliminate_124 ?_
    refine vj_iload G (p9 := 3) d_F_eliminate_125 rfl ?_
    obtain ⟨c3, hF⟩ := ck_some hF
    refine vj_lald G (x := x4) (lkC_r200 c2) (by decide) c3 d_F_eliminate_127 ?_
    refine vj_mr (fun hM4 => ?_)
    refine vj_lstore_n G (lv2 := [(2, .long (i64 (M (200 + x4.toNat) x4.toNat))), (0, .ref (wa w 5)), (1, .int (i32 x1)), (4, .int (i32 x4)), (5, .int (i32 x5))]) d_F_eliminate_128 rfl (by decide) rfl ?_
    refine vj_iinc G (p9 := 3) (n := 1) (lv2 := [(4, .int (i32 (w32 (x4 + 1)))), (2, .long (i64 (M (200 + x4.toNat) x4.toNat))), (0, .ref (wa w 5)), (1, .int (i32 x1)), (5, .int (i32 x5))]) d_F_eliminate_129 rfl (by decide) rfl ?_
    refine vj_goto G (tgt := 5) d_F_eliminate_132 (by decide) ?_
    refine vj_sub [2, 3, 1, 0] rfl ?_
    exact hk5 x1 (M (200 + x4.toNat) x4.toNat) (w32 (x4 + 1)) hx1 (mr_al hM4 (lkC_r200 c2)) (ir_w _) _ hF
  · rw [if_neg c1] at hF
    refine vj_iload G (p9 := 3) d_F_eliminate_25 rfl ?_
    refine vj_iconst G (v := 1) d_F_eliminate_27 rfl ?_
    refine vj_iadd G d_F_eliminate_28 ?_
    refine vj_istore G (lv2 := [(6, .int (i32 (w32 (x4 + 1)))), (0, .ref (wa w 5)), (1, .int (i32 x1)), (2, .long (i64 x2)), (4, .int (i32 x4)), (5, .int (i32 x5))]) d_F_eliminate_29 (by decide) rfl ?_
    refine vj_sub [1, 2, 3, 4, 5, 0] rfl ?_
    exact wl_F_eliminate_31 G0 n k5 hk5 k19 hk19 n x1 x2 x4 x5 (w32 (x4 + 1)) hx1 hx2 hx4 hx5 (ir_w _) _ hF
set_option maxHeartbeats 4000000 in
set_option maxRecDepth 100000 in
theorem wl_F_eliminate_19 {w : Wd} {X : Cx} {r : Int} {M9 : Mm} (G0 : Gx LC w X "WhoRules$Flow" b_F_eliminate 9 0 0 none) (n : Nat) (k5 : Int → Int → Int → Mm → Rr) (hk5 : ∀ (x1 x2 x4 : Int) (hx1 : inR x1) (hx2 : in64 x2) (hx4 : inR x4) (M : Mm), k5 x1 x2 x4 M = some (r, M9) → VJ LC w X 9 0 r M9 M [(0, .ref (wa w 5)), (1, .int (i32 x1)), (2, .long (i64 x2)), (4, .int (i32 x4))] [] 5) : ∀ (f : Nat) (x1 x2 x4 x5 : Int) (hx1 : inR x1) (hx2 : in64 x2) (hx4 : inR x4) (hx5 : inR x5) (M : Mm), lp_F_eliminate_19 n k5 f x1 x2 x4 x5 M = some (r, M9) → VJ LC w X 9 0 r M9 M [(0, .ref (wa w 5)), (1, .int (i32 x1)), (2, .long (i64 x2)), (4, .int (i32 x4)), (5, .int (i32 x5))] [] 19 := by
  intro f
  induction f with
  | zero => intro x1 x2 x4 x5 hx1 hx2 hx4 hx5 M hF; cases hF
  | succ f ih => intro x1 x2 x4 x5 hx1 hx2 hx4 hx5 M hF; exact wk_F_eliminate_19 G0 n k5 hk5 (lp_F_eliminate_19 n k5 f) ih x1 x2 x4 x5 hx1 hx2 hx4 hx5 M hF
set_option maxHeartbeats 4000000 in
set_option maxRecDepth 100000 in
theorem wk_F_eliminate_5 {w : Wd} {X : Cx} {r : Int} {M9 : Mm} (G0 : Gx LC w X "WhoRules$Flow" b_F_eliminate 9 0 0 none) (n : Nat) (k5 : Int → Int → Int → Mm → Rr) (hk5 : ∀ (x1 x2 x4 : Int) (hx1 : inR x1) (hx2 : in64 x2) (hx4 : inR x4) (M : Mm), k5 x1 x2 x4 M = some (r, M9) → VJ LC w X 9 0 r M9 M [(0, .ref (wa w 5)), (1, .int (i32 x1)), (2, .long (i64 x2)), (4, .int (i32 x4))] [] 5) (x1 x2 x4 : Int) (hx1 : inR x1) (hx2 : in64 x2) (hx4 : inR x4) (M : Mm) (hF : f_F_eliminate_5 n k5 x1 x2 x4 M = some (r, M9)) : VJ LC w X 9 0 r M9 M [(0, .ref (wa w 5)), (1, .int (i32 x1)), (2, .long (i64 x2)), (4, .int (i32 x4))] [] 5 := by
  have G := G0.1
  unfold f_F_eliminate_5 at hF
  refine vj_iload G (p9 := 3) d_F_eliminate_5 rfl ?_
  refine vj_iload_n G (p9 := 1) d_F_eliminate_7 rfl rfl ?_
  refine vj_iconst G (v := 1) d_F_eliminate_8 rfl ?_
  refine vj_isub G d_F_eliminate_9 ?_
  refine vj_icmp_ge G (tgt := 135) d_F_eliminate_10 (by decide) hx4 (ir_w _) (fun c1 => ?_) (fun c1 => ?_)
  · rw [if_pos c1] at hF
    cases hF
    exact vj_vret G0 d_F_eliminate_135
  · rw [if_neg c1] at hF
    refine vj_iload G (p9 := 3) d_F_eliminate_13 rfl ?_
    refine vj_iconst G (v := 1) d_F_eliminate_15 rfl ?_
    refine vj_iadd G d_F_eliminate_16 ?_
    refine vj_istore G (lv2 := [(5, .int (i32 (w32 (x4 + 1)))), (0, .ref (wa w 5)), (1, .int (i32 x1)), (2, .long (i64 x2)), (4, .int (i32 x4))]) d_F_eliminate_17 (by decide) rfl ?_
    refine vj_sub [1, 2, 3, 4, 0] rfl ?_
    exact wl_F_eliminate_19 G0 n k5 hk5 n x1 x2 x4 (w32 (x4 + 1)) hx1 hx2 hx4 (ir_w _) _ hF
set_option maxHeartbeats 4000000 in
set_option maxRecDepth 100000 in
theorem wl_F_eliminate_5 {w : Wd} {X : Cx} {r : Int} {M9 : Mm} (G0 : Gx LC w X "WhoRules$Flow" b_F_eliminate 9 0 0 none) (n : Nat) : ∀ (f : Nat) (x1 x2 x4 : Int) (hx1 : inR x1) (hx2 : in64 x2) (hx4 : inR x4) (M : Mm), lp_F_eliminate_5 n f x1 x2 x4 M = some (r, M9) → VJ LC w X 9 0 r M9 M [(0, .ref (wa w 5)), (1, .int (i32 x1)), (2, .long (i64 x2)), (4, .int (i32 x4))] [] 5 := by
  intro f
  induction f with
  | zero => intro x1 x2 x4 hx1 hx2 hx4 M hF; cases hF
  | succ f ih => intro x1 x2 x4 hx1 hx2 hx4 M hF; exact wk_F_eliminate_5 G0 n (lp_F_eliminate_5 n f) ih x1 x2 x4 hx1 hx2 hx4 M hF
set_option maxHeartbeats 4000000 in
set_option maxRecDepth 100000 in
theorem ct_F_eliminate {w : Wd} (hij : ij LC w) (n : Nat) (x1 : Int) (hx1 : inR x1) {M : Mm} {r : Int} {M9 : Mm} (hF : f_F_eliminate n x1 M = some (r, M9)) : Ct LC w y_F_eliminate b_F_eliminate 9 none 0 0 0 [.ref (wa w 5), .int (i32 x1)] M r M9 := by
  refine Ct.of hij KstC (by decide +kernel) (Nat.le_of_ble_eq_true rfl) (fun X G0 => ?_)
  have G := G0.1
  show VJ LC w X 9 0 r M9 M [(0, .ref (wa w 5)), (1, .int (i32 x1))] [] 0
  unfold f_F_eliminate at hF
  refine vj_lconst G (v := 1) d_F_eliminate_0 rfl ?_
  refine vj_lstore_n G (lv2 := [(2, .long (i64 1)), (0, .ref (wa w 5)), (1, .int (i32 x1))]) d_F_eliminate_1 rfl (by decide) rfl ?_
  refine vj_iconst G (v := 0) d_F_eliminate_2 rfl ?_
  refine vj_istore G (lv2 := [(4, .int (i32 0)), (2, .long (i64 1)), (0, .ref (wa w 5)), (1, .int (i32 x1))]) d_F_eliminate_3 (by decide) rfl ?_
  refine vj_sub [2, 3, 1, 0] rfl ?_
  exact wl_F_eliminate_5 G0 n  n x1 1 0 hx1 (lr_i ic_1) ic_0 _ hF
set_option maxHeartbeats 4000000 in
set_option maxRecDepth 100000 in
theorem wk_F_greatestDivisor_9 {w : Wd} {X : Cx} {r : Int} {M9 : Mm} (G0 : Gx LC w X "WhoRules$Flow" b_F_greatestDivisor 11 0 0 (some .long)) (n : Nat) (k9 : Int → Int → Int → Mm → Rr) (hk9 : ∀ (x4 x6 x8 : Int) (hx4 : in64 x4) (hx6 : in64 x6) (hx8 : inR x8) (M : Mm), k9 x4 x6 x8 M = some (r, M9) → VJ LC w X 11 2 r M9 M [(4, .long (i64 x4)), (6, .long (i64 x6)), (8, .int (i32 x8))] [] 9) (x4 x6 x8 : Int) (hx4 : in64 x4) (hx6 : in64 x6) (hx8 : inR x8) (M : Mm) (hF : f_F_greatestDivisor_9 n k9 x4 x6 x8 M = some (r, M9)) : VJ LC w X 11 2 r M9 M [(4, .long (i64 x4)), (6, .long (i64 x6)), (8, .int (i32 x8))] [] 9 := by
  have G := G0.1
  unfold f_F_greatestDivisor_9 at hF
  refine vj_iload G (p9 := 2) d_F_greatestDivisor_9 rfl ?_
  refine vj_sipush G (v := 200) d_F_greatestDivisor_11 rfl ?_
  refine vj_icmp_ge G (tgt := 45) d_F_greatestDivisor_14 (by decide) hx8 ic_200 (fun c1 => ?_) (fun c1 => ?_)
  · rw [if_pos c1] at hF
    refine vj_lload G (p9 := 0) d_F_greatestDivisor_45 rfl ?_
    cases hF
    exact vj_lret G0 hx4 d_F_greatestDivisor_47
  · rw [if_neg c1] at hF
    refine vj_lload G (p9 := 1) d_F_greatestDivisor_17 rfl ?_
    refine vj_lconst G (v := 0) d_F_greatestDivisor_19 rfl ?_
    refine vj_lcmp_eq G (tgt := 45) d_F_greatestDivisor_20 d_F_greatestDivisor_21 (by decide) hx6 (lr_i ic_0) (fun c2 => ?_) (fun c2 => ?_)
    · rw [if_pos c2] at hF
      refine vj_lload G (p9 := 0) d_F_greatestDivisor_45 rfl ?_
      cases hF
      exact vj_lret G0 hx4 d_F_greatestDivisor_47
    · rw [if_neg c2] at hF
      refine vj_lload G (p9 := 0) d_F_greatestDivisor_24 rfl ?_
      refine vj_lload G (p9 := 1) d_F_greatestDivisor_26 rfl ?_
      obtain ⟨c3, hF⟩ := ck_some hF
      refine vj_lrem G d_F_greatestDivisor_28 hx6 c3 ?_
      refine vj_lstore G (lv2 := [(9, .long (i64 (lrm x4 x6))), (4, .long (i64 x4)), (6, .long (i64 x6)), (8, .int (i32 x8))]) d_F_greatestDivisor_29 (by decide) rfl ?_
      refine vj_lload G (p9 := 2) d_F_greatestDivisor_31 rfl ?_
      refine vj_lstore G (lv2 := [(4, .long (i64 x6)), (9, .long (i64 (lrm x4 x6))), (6, .long (i64 x6)), (8, .int (i32 x8))]) d_F_greatestDivisor_33 (by decide) rfl ?_
      refine vj_lload G (p9 := 1) d_F_greatestDivisor_35 rfl ?_
      refine vj_lstore G (lv2 := [(6, .long (i64 (lrm x4 x6))), (4, .long (i64 x6)), (9, .long (i64 (lrm x4 x6))), (8, .int (i32 x8))]) d_F_greatestDivisor_37 (by decide) rfl ?_
      refine vj_iinc G (p9 := 3) (n := 1) (lv2 := [(8, .int (i32 (w32 (x8 + 1)))), (6, .long (i64 (lrm x4 x6))), (4, .long (i64 x6)), (9, .long (i64 (lrm x4 x6)))]) d_F_greatestDivisor_39 rfl (by decide) rfl ?_
      refine vj_goto G (tgt := 9) d_F_greatestDivisor_42 (by decide) ?_
      refine vj_sub [2, 1, 0] rfl ?_
      exact hk9 x6 (lrm x4 x6) (w32 (x8 + 1)) hx6 (lr_rm _ _) (ir_w _) _ hF
set_option maxHeartbeats 4000000 in
set_option maxRecDepth 100000 in
theorem wl_F_greatestDivisor_9 {w : Wd} {X : Cx} {r : Int} {M9 : Mm} (G0 : Gx LC w X "WhoRules$Flow" b_F_greatestDivisor 11 0 0 (some .long)) (n : Nat) : ∀ (f : Nat) (x4 x6 x8 : Int) (hx4 : in64 x4) (hx6 : in64 x6) (hx8 : inR x8) (M : Mm), lp_F_greatestDivisor_9 n f x4 x6 x8 M = some (r, M9) → VJ LC w X 11 2 r M9 M [(4, .long (i64 x4)), (6, .long (i64 x6)), (8, .int (i32 x8))] [] 9 := by
  intro f
  induction f with
  | zero => intro x4 x6 x8 hx4 hx6 hx8 M hF; cases hF
  | succ f ih => intro x4 x6 x8 hx4 hx6 hx8 M hF; exact wk_F_greatestDivisor_9 G0 n (lp_F_greatestDivisor_9 n f) ih x4 x6 x8 hx4 hx6 hx8 M hF
set_option maxHeartbeats 4000000 in
set_option maxRecDepth 100000 in
theorem ct_F_greatestDivisor {w : Wd} (hij : ij LC w) (n : Nat) (x0 x2 : Int) (hx0 : in64 x0) (hx2 : in64 x2) {M : Mm} {r : Int} {M9 : Mm} (hF : f_F_greatestDivisor n x0 x2 M = some (r, M9)) : Ct LC w y_F_greatestDivisor b_F_greatestDivisor 11 (some .long) 0 0 2 [.long (i64 x0), .long (i64 x2)] M r M9 := by
  refine Ct.of hij KstC (by decide +kernel) (Nat.le_of_ble_eq_true rfl) (fun X G0 => ?_)
  have G := G0.1
  show VJ LC w X 11 2 r M9 M [(0, .long (i64 x0)), (2, .long (i64 x2))] [] 0
  unfold f_F_greatestDivisor at hF
  refine vj_lload_n G (p9 := 0) d_F_greatestDivisor_0 rfl rfl ?_
  refine vj_lstore G (lv2 := [(4, .long (i64 x0)), (0, .long (i64 x0)), (2, .long (i64 x2))]) d_F_greatestDivisor_1 (by decide) rfl ?_
  refine vj_lload_n G (p9 := 2) d_F_greatestDivisor_3 rfl rfl ?_
  refine vj_lstore G (lv2 := [(6, .long (i64 x2)), (4, .long (i64 x0)), (0, .long (i64 x0)), (2, .long (i64 x2))]) d_F_greatestDivisor_4 (by decide) rfl ?_
  refine vj_iconst G (v := 0) d_F_greatestDivisor_6 rfl ?_
  refine vj_istore G (lv2 := [(8, .int (i32 0)), (6, .long (i64 x2)), (4, .long (i64 x0)), (0, .long (i64 x0)), (2, .long (i64 x2))]) d_F_greatestDivisor_7 (by decide) rfl ?_
  refine vj_sub [2, 1, 0] rfl ?_
  exact wl_F_greatestDivisor_9 G0 n  n x0 x2 0 hx0 hx2 ic_0 _ hF
set_option maxHeartbeats 4000000 in
set_option maxRecDepth 100000 in
theorem ct_F_unroll {w : Wd} (hij : ij LC w) (n : Nat) (x1 x2 : Int) (hx1 : inR x1) (hx2 : inR x2) {M : Mm} {r : Int} {M9 : Mm} (hF : f_F_unroll n x1 x2 M = some (r, M9)) : Ct LC w y_F_unroll b_F_unroll 7 none 4 89 0 [.ref (wa w 5), .int (i32 x1), .int (i32 x2)] M r M9 := by
  refine Ct.of hij KstC (by decide +kernel) (Nat.le_of_ble_eq_true rfl) (fun X G0 => ?_)
  have G := G0.1
  show VJ LC w X 7 0 r M9 M [(0, .ref (wa w 5)), (1, .int (i32 x1)), (2, .int (i32 x2))] [] 0
  unfold f_F_unroll at hF
  refine vj_aload_n G (p9 := 0) d_F_unroll_0 rfl rfl ?_
  obtain ⟨r1, M1, e1, hF⟩ := bnd_some hF
  refine vj_callV0 G (ct_F_load (gx_ij G) n   e1) lkC_5 clC_11 rfl q_964 cq_F_load rfl (by decide) (by decide) (Nat.le_of_ble_eq_true rfl) d_F_unroll_1 rfl (fun hr1 => ?_)
  refine vj_aload_n G (p9 := 0) d_F_unroll_4 rfl rfl ?_
  refine vj_lconst G (v := 0) d_F_unroll_5 rfl ?_
  refine pfC_F_92 G (lr_i ic_0) d_F_unroll_6 ?_
  refine vj_aload_n G (p9 := 0) d_F_unroll_9 rfl rfl ?_
  refine vj_lconst G (v := 1) d_F_unroll_10 rfl ?_
  refine pfC_F_96 G (lr_i ic_1) d_F_unroll_11 ?_
  refine vj_aload_n G (p9 := 0) d_F_unroll_14 rfl rfl ?_
  obtain ⟨r2, M2, e2, hF⟩ := bnd_some hF
  refine vj_callV1 G (ct_F_openFirms (gx_ij G) n   e2) lkC_5 clC_11 rfl q_970 cq_F_openFirms rfl (by decide) (by decide) (Nat.le_of_ble_eq_true rfl) d_F_unroll_15 rfl (fun hr2 => ?_)
  refine vj_istore_n G (lv2 := [(3, .int (i32 r2)), (0, .ref (wa w 5)), (1, .int (i32 x1)), (2, .int (i32 x2))]) d_F_unroll_18 rfl (by decide) rfl ?_
  refine vj_iload_n G (p9 := 0) d_F_unroll_19 rfl rfl ?_
  refine vj_iload_n G (p9 := 2) d_F_unroll_20 rfl rfl ?_
  refine vj_ishr G d_F_unroll_21 ?_
  refine vj_iconst G (v := 1) d_F_unroll_22 rfl ?_
  refine vj_iand G d_F_unroll_23 ?_
  refine vj_if_ne G (tgt := 28) d_F_unroll_24 (by decide) (ir_an _ _) (fun c3 => ?_) (fun c3 => ?_)
  · rw [if_pos c3] at hF
    refine vj_aload_n G (p9 := 1) d_F_unroll_28 rfl rfl ?_
    refine vj_iload_n G (p9 := 0) d_F_unroll_29 rfl rfl ?_
    refine vj_iload_n G (p9 := 2) d_F_unroll_30 rfl rfl ?_
    obtain ⟨r4, M4, e4, hF⟩ := bnd_some hF
    refine vj_callV1 G (ct_F_putInOrder (gx_ij G) n r2 x1 hr2 hx1 e4) lkC_5 clC_11 rfl q_979 cq_F_putInOrder rfl (by decide) (by decide) (Nat.le_of_ble_eq_true rfl) d_F_unroll_31 rfl (fun hr4 => ?_)
    refine vj_istore G (lv2 := [(4, .int (i32 r4)), (3, .int (i32 r2)), (0, .ref (wa w 5)), (1, .int (i32 x1)), (2, .int (i32 x2))]) d_F_unroll_34 (by decide) rfl ?_
    refine vj_aload_n G (p9 := 2) d_F_unroll_36 rfl rfl ?_
    refine vj_iload G (p9 := 0) d_F_unroll_37 rfl ?_
    refine vj_iload_n G (p9 := 4) d_F_unroll_39 rfl rfl ?_
    obtain ⟨r5, M5, e5, hF⟩ := bnd_some hF
    refine vj_callV0 G (ct_F_writeLines (gx_ij G) n r4 x2 hr4 hx2 e5) lkC_5 clC_11 rfl q_983 cq_F_writeLines rfl (by decide) (by decide) (Nat.le_of_ble_eq_true rfl) d_F_unroll_40 rfl (fun hr5 => ?_)
    refine vj_aload_n G (p9 := 2) d_F_unroll_43 rfl rfl ?_
    refine vj_iload G (p9 := 0) d_F_unroll_44 rfl ?_
    obtain ⟨r6, M6, e6, hF⟩ := bnd_some hF
    refine vj_callV0 G (ct_F_eliminate (gx_ij G) n r4 hr4 e6) lkC_5 clC_11 rfl q_987 cq_F_eliminate rfl (by decide) (by decide) (Nat.le_of_ble_eq_true rfl) d_F_unroll_46 rfl (fun hr6 => ?_)
    refine vj_aload_n G (p9 := 2) d_F_unroll_49 rfl rfl ?_
    refine gfC_F_34 G d_F_unroll_50 ?_
    refine vj_iload G (p9 := 0) d_F_unroll_53 rfl ?_
    refine vj_iconst G (v := 1) d_F_unroll_55 rfl ?_
    refine vj_isub G d_F_unroll_56 ?_
    obtain ⟨c7, hF⟩ := ck_some hF
    refine vj_aald6 G (x := w32 (r4 - 1)) lkC_62 (by decide) c7 d_F_unroll_57 ?_
    refine vj_iload G (p9 := 0) d_F_unroll_58 rfl ?_
    obtain ⟨c8, hF⟩ := ck_some hF
    refine vj_lald G (x := r4) (lkC_r200 c7) (by decide) c8 d_F_unroll_60 ?_
    refine vj_mr (fun hM9 => ?_)
    refine vj_aload_n G (p9 := 2) d_F_unroll_61 rfl rfl ?_
    refine gfC_F_34 G d_F_unroll_62 ?_
    refine vj_iload G (p9 := 0) d_F_unroll_65 rfl ?_
    refine vj_iconst G (v := 1) d_F_unroll_67 rfl ?_
    refine vj_isub G d_F_unroll_68 ?_
    obtain ⟨c10, hF⟩ := ck_some hF
    refine vj_aald6 G (x := w32 (r4 - 1)) lkC_62 (by decide) c10 d_F_unroll_69 ?_
    refine vj_iload G (p9 := 0) d_F_unroll_70 rfl ?_
    refine vj_iconst G (v := 1) d_F_unroll_72 rfl ?_
    refine vj_isub G d_F_unroll_73 ?_
    obtain ⟨c11, hF⟩ := ck_some hF
    refine vj_lald G (x := w32 (r4 - 1)) (lkC_r200 c10) (by decide) c11 d_F_unroll_74 ?_
    obtain ⟨r12, M12, e12, hF⟩ := bnd_some hF
    refine vj_callS2 G (ct_F_greatestDivisor (gx_ij G) n (M6 (200 + (w32 (r4 - 1)).toNat) r4.toNat) (M6 (200 + (w32 (r4 - 1)).toNat) (w32 (r4 - 1)).toNat) (mr_al hM9 (lkC_r200 c7)) (mr_al hM9 (lkC_r200 c10)) e12) q_991 cq_F_greatestDivisor rfl (by decide) (by decide) (Nat.le_of_ble_eq_true rfl) d_F_unroll_75 rfl (fun hr12 => ?_)
    refine vj_lstore G (lv2 := [(5, .long (i64 r12)), (4, .int (i32 r4)), (3, .int (i32 r2)), (0, .ref (wa w 5)), (1, .int (i32 x1)), (2, .int (i32 x2))]) d_F_unroll_78 (by decide) rfl ?_
    refine vj_lload G (p9 := 0) d_F_unroll_80 rfl ?_
    refine vj_lconst G (v := 0) d_F_unroll_82 rfl ?_
    refine vj_lcmp_le G (tgt := 127) d_F_unroll_83 d_F_unroll_84 (by decide) hr12 (lr_i ic_0) (fun c13 => ?_) (fun c13 => ?_)
    · rw [if_pos c13] at hF
      cases hF
      exact vj_vret G0 d_F_unroll_127
    · rw [if_neg c13] at hF
      refine vj_aload_n G (p9 := 3) d_F_unroll_87 rfl rfl ?_
      refine vj_aload_n G (p9 := 3) d_F_unroll_88 rfl rfl ?_
      refine gfC_F_34 G d_F_unroll_89 ?_
      refine vj_iload G (p9 := 1) d_F_unroll_92 rfl ?_
      refine vj_iconst G (v := 1) d_F_unroll_94 rfl ?_
      refine vj_isub G d_F_unroll_95 ?_
      obtain ⟨c14, hF⟩ := ck_some hF
      refine vj_aald6 G (x := w32 (r4 - 1)) lkC_62 (by decide) c14 d_F_unroll_96 ?_
      refine vj_iload G (p9 := 1) d_F_unroll_97 rfl ?_
      obtain ⟨c15, hF⟩ := ck_some hF
      refine vj_lald G (x := r4) (lkC_r200 c14) (by decide) c15 d_F_unroll_99 ?_
      refine vj_mr (fun hM16 => ?_)
      refine vj_lload G (p9 := 0) d_F_unroll_100 rfl ?_
      obtain ⟨c17, hF⟩ := ck_some hF
      refine vj_ldiv G d_F_unroll_102 hr12 c17 ?_
      refine pfC_F_92 G (lr_dv _ _) d_F_unroll_103 ?_
      refine vj_aload_n G (p9 := 3) d_F_unroll_106 rfl rfl ?_
      refine vj_aload_n G (p9 := 3) d_F_unroll_107 rfl rfl ?_
      refine gfC_F_34 G d_F_unroll_108 ?_
      refine vj_iload G (p9 := 1) d_F_unroll_111 rfl ?_
      refine vj_iconst G (v := 1) d_F_unroll_113 rfl ?_
      refine vj_isub G d_F_unroll_114 ?_
      obtain ⟨c18, hF⟩ := ck_some hF
      refine vj_aald6 G (x := w32 (r4 - 1)) lkC_62 (by decide) c18 d_F_unroll_115 ?_
      refine vj_iload G (p9 := 1) d_F_unroll_116 rfl ?_
      refine vj_iconst G (v := 1) d_F_unroll_118 rfl ?_
      refine vj_isub G d_F_unroll_119 ?_
      obtain ⟨c19, hF⟩ := ck_some hF
      refine vj_lald G (x := w32 (r4 - 1)) (lkC_r200 c18) (by decide) c19 d_F_unroll_120 ?_
      refine vj_mr (fun hM20 => ?_)
      refine vj_lload G (p9 := 0) d_F_unroll_121 rfl ?_
      obtain ⟨c21, hF⟩ := ck_some hF
      refine vj_ldiv G d_F_unroll_123 hr12 c21 ?_
      refine pfC_F_96 G (lr_dv _ _) d_F_unroll_124 ?_
      cases hF
      exact vj_vret G0 d_F_unroll_127
  · rw [if_neg c3] at hF
    cases hF
    exact vj_vret G0 d_F_unroll_27
set_option maxHeartbeats 4000000 in
set_option maxRecDepth 100000 in
theorem ct_W_worth {w : Wd} (hij : ij LC w) (n : Nat) (x1 x2 x3 : Int) (hx1 : inR x1) (hx2 : inR x2) (hx3 : inR x3) {M : Mm} {r : Int} {M9 : Mm} (hF : f_W_worth n x1 x2 x3 M = some (r, M9)) : Ct LC w y_W_worth b_W_worth 4 (some .long) 5 115 2 [.ref (wa w 0), .int (i32 x1), .int (i32 x2), .int (i32 x3)] M r M9 := by
  refine Ct.of hij KstC (by decide +kernel) (Nat.le_of_ble_eq_true rfl) (fun X G0 => ?_)
  have G := G0.1
  show VJ LC w X 4 2 r M9 M [(0, .ref (wa w 0)), (1, .int (i32 x1)), (2, .int (i32 x2)), (3, .int (i32 x3))] [] 0
  unfold f_W_worth at hF
  refine vj_aload_n G (p9 := 0) d_W_worth_0 rfl rfl ?_
  refine gfC_W_18 G d_W_worth_1 ?_
  refine vj_iload_n G (p9 := 1) d_W_worth_4 rfl rfl ?_
  obtain ⟨r1, M1, e1, hF⟩ := bnd_some hF
  refine vj_callV3 G (ct_R_isFirm (gx_ij G) n x1 hx1 e1) lkC_1 clC_7 rfl q_592 cq_R_isFirm rfl (by decide) (by decide) (Nat.le_of_ble_eq_true rfl) d_W_worth_5 rfl (fun hr1 => ?_)
  refine vj_if_eq G (tgt := 33) d_W_worth_8 (by decide) (ir_b hr1) (fun c2 => ?_) (fun c2 => ?_)
  · rw [if_pos c2] at hF
    refine vj_ldc2 G (v := (-9223372036854775808)) d_W_worth_33 q_959 rfl ?_
    cases hF
    exact vj_lret G0 ⟨by decide, by decide⟩ d_W_worth_36
  · rw [if_neg c2] at hF
    refine vj_aload_n G (p9 := 0) d_W_worth_11 rfl rfl ?_
    refine gfC_W_18 G d_W_worth_12 ?_
    refine vj_iload_n G (p9 := 2) d_W_worth_15 rfl rfl ?_
    obtain ⟨r3, M3, e3, hF⟩ := bnd_some hF
    refine vj_callV3 G (ct_R_isHolder (gx_ij G) n x2 hx2 e3) lkC_1 clC_7 rfl q_596 cq_R_isHolder rfl (by decide) (by decide) (Nat.le_of_ble_eq_true rfl) d_W_worth_16 rfl (fun hr3 => ?_)
    refine vj_if_eq G (tgt := 33) d_W_worth_19 (by decide) (ir_b hr3) (fun c4 => ?_) (fun c4 => ?_)
    · rw [if_pos c4] at hF
      refine vj_ldc2 G (v := (-9223372036854775808)) d_W_worth_33 q_959 rfl ?_
      cases hF
      exact vj_lret G0 ⟨by decide, by decide⟩ d_W_worth_36
    · rw [if_neg c4] at hF
      refine vj_aload_n G (p9 := 0) d_W_worth_22 rfl rfl ?_
      refine gfC_W_18 G d_W_worth_23 ?_
      refine vj_iload_n G (p9 := 2) d_W_worth_26 rfl rfl ?_
      obtain ⟨r5, M5, e5, hF⟩ := bnd_some hF
      refine vj_callV3 G (ct_R_isFirm (gx_ij G) n x2 hx2 e5) lkC_1 clC_7 rfl q_592 cq_R_isFirm rfl (by decide) (by decide) (Nat.le_of_ble_eq_true rfl) d_W_worth_27 rfl (fun hr5 => ?_)
      refine vj_if_eq G (tgt := 37) d_W_worth_30 (by decide) (ir_b hr5) (fun c6 => ?_) (fun c6 => ?_)
      · rw [if_pos c6] at hF
        refine vj_iload_n G (p9 := 3) d_W_worth_37 rfl rfl ?_
        refine vj_if_lt G (tgt := 46) d_W_worth_38 (by decide) hx3 (fun c7 => ?_) (fun c7 => ?_)
        · rw [if_pos c7] at hF
          refine vj_ldc2 G (v := (-9223372036854775808)) d_W_worth_46 q_959 rfl ?_
          cases hF
          exact vj_lret G0 ⟨by decide, by decide⟩ d_W_worth_49
        · rw [if_neg c7] at hF
          refine vj_iload_n G (p9 := 3) d_W_worth_41 rfl rfl ?_
          refine vj_iconst G (v := 1) d_W_worth_42 rfl ?_
          refine vj_icmp_le G (tgt := 50) d_W_worth_43 (by decide) hx3 ic_1 (fun c8 => ?_) (fun c8 => ?_)
          · rw [if_pos c8] at hF
            refine vj_aload_n G (p9 := 0) d_W_worth_50 rfl rfl ?_
            refine gfC_W_52 G d_W_worth_51 ?_
            refine vj_iload_n G (p9 := 1) d_W_worth_54 rfl rfl ?_
            refine vj_iload_n G (p9 := 2) d_W_worth_55 rfl rfl ?_
            obtain ⟨r9, M9, e9, hF⟩ := bnd_some hF
            refine vj_callV0 G (ct_F_unroll (gx_ij G) n x1 x2 hx1 hx2 e9) lkC_5 clC_11 rfl q_960 cq_F_unroll rfl (by decide) (by decide) (Nat.le_of_ble_eq_true rfl) d_W_worth_56 rfl (fun hr9 => ?_)
            refine vj_iload_n G (p9 := 3) d_W_worth_59 rfl rfl ?_
            refine vj_if_ne G (tgt := 73) d_W_worth_60 (by decide) hx3 (fun c10 => ?_) (fun c10 => ?_)
            · rw [if_pos c10] at hF
              refine vj_aload_n G (p9 := 0) d_W_worth_73 rfl rfl ?_
              refine gfC_W_52 G d_W_worth_74 ?_
              refine gfC_W_227 G d_W_worth_77 ?_
              refine vj_mr (fun hM11 => ?_)
              cases hF
              exact vj_lret G0 (mr_ol hM11 lkC_5 flC_11_9) d_W_worth_80
            · rw [if_neg c10] at hF
              refine vj_aload_n G (p9 := 0) d_W_worth_63 rfl rfl ?_
              refine gfC_W_52 G d_W_worth_64 ?_
              refine gfC_W_223 G d_W_worth_67 ?_
              refine vj_mr (fun hM12 => ?_)
              refine vj_goto G (tgt := 80) d_W_worth_70 (by decide) ?_
              cases hF
              exact vj_lret G0 (mr_ol hM12 lkC_5 flC_11_8) d_W_worth_80
          · rw [if_neg c8] at hF
            refine vj_ldc2 G (v := (-9223372036854775808)) d_W_worth_46 q_959 rfl ?_
            cases hF
            exact vj_lret G0 ⟨by decide, by decide⟩ d_W_worth_49
      · rw [if_neg c6] at hF
        refine vj_ldc2 G (v := (-9223372036854775808)) d_W_worth_33 q_959 rfl ?_
        cases hF
        exact vj_lret G0 ⟨by decide, by decide⟩ d_W_worth_36
set_option maxHeartbeats 4000000 in
set_option maxRecDepth 100000 in
theorem ct_F_isHollow {w : Wd} (hij : ij LC w) (n : Nat) (x1 : Int) (hx1 : inR x1) {M : Mm} {r : Int} {M9 : Mm} (hF : f_F_isHollow n x1 M = some (r, M9)) : Ct LC w y_F_isHollow b_F_isHollow 2 (some .boolean) 4 89 3 [.ref (wa w 5), .int (i32 x1)] M r M9 := by
  refine Ct.of hij KstC (by decide +kernel) (Nat.le_of_ble_eq_true rfl) (fun X G0 => ?_)
  have G := G0.1
  show VJ LC w X 2 3 r M9 M [(0, .ref (wa w 5)), (1, .int (i32 x1))] [] 0
  unfold f_F_isHollow at hF
  refine vj_aload_n G (p9 := 0) d_F_isHollow_0 rfl rfl ?_
  obtain ⟨r1, M1, e1, hF⟩ := bnd_some hF
  refine vj_callV0 G (ct_F_load (gx_ij G) n   e1) lkC_5 clC_11 rfl q_964 cq_F_load rfl (by decide) (by decide) (Nat.le_of_ble_eq_true rfl) d_F_isHollow_1 rfl (fun hr1 => ?_)
  refine vj_aload_n G (p9 := 0) d_F_isHollow_4 rfl rfl ?_
  obtain ⟨r2, M2, e2, hF⟩ := bnd_some hF
  refine vj_callV1 G (ct_F_openFirms (gx_ij G) n   e2) lkC_5 clC_11 rfl q_970 cq_F_openFirms rfl (by decide) (by decide) (Nat.le_of_ble_eq_true rfl) d_F_isHollow_5 rfl (fun hr2 => ?_)
  refine vj_iload_n G (p9 := 1) d_F_isHollow_8 rfl rfl ?_
  refine vj_ishr G d_F_isHollow_9 ?_
  refine vj_iconst G (v := 1) d_F_isHollow_10 rfl ?_
  refine vj_iand G d_F_isHollow_11 ?_
  refine vj_if_ne G (tgt := 19) d_F_isHollow_12 (by decide) (ir_an _ _) (fun c3 => ?_) (fun c3 => ?_)
  · rw [if_pos c3] at hF
    refine vj_iconst G (v := 0) d_F_isHollow_19 rfl ?_
    cases hF
    exact vj_zret G0 (Or.inl rfl) d_F_isHollow_20
  · rw [if_neg c3] at hF
    refine vj_iconst G (v := 1) d_F_isHollow_15 rfl ?_
    refine vj_goto G (tgt := 20) d_F_isHollow_16 (by decide) ?_
    cases hF
    exact vj_zret G0 (Or.inr rfl) d_F_isHollow_20
set_option maxHeartbeats 4000000 in
set_option maxRecDepth 100000 in
theorem ct_W_hollow {w : Wd} (hij : ij LC w) (n : Nat) (x1 : Int) (hx1 : inR x1) {M : Mm} {r : Int} {M9 : Mm} (hF : f_W_hollow n x1 M = some (r, M9)) : Ct LC w y_W_hollow b_W_hollow 2 (some .int) 5 110 1 [.ref (wa w 0), .int (i32 x1)] M r M9 := by
  refine Ct.of hij KstC (by decide +kernel) (Nat.le_of_ble_eq_true rfl) (fun X G0 => ?_)
  have G := G0.1
  show VJ LC w X 2 1 r M9 M [(0, .ref (wa w 0)), (1, .int (i32 x1))] [] 0
  unfold f_W_hollow at hF
  refine vj_aload_n G (p9 := 0) d_W_hollow_0 rfl rfl ?_
  refine gfC_W_18 G d_W_hollow_1 ?_
  refine vj_iload_n G (p9 := 1) d_W_hollow_4 rfl rfl ?_
  obtain ⟨r1, M1, e1, hF⟩ := bnd_some hF
  refine vj_callV3 G (ct_R_isFirm (gx_ij G) n x1 hx1 e1) lkC_1 clC_7 rfl q_592 cq_R_isFirm rfl (by decide) (by decide) (Nat.le_of_ble_eq_true rfl) d_W_hollow_5 rfl (fun hr1 => ?_)
  refine vj_if_ne G (tgt := 13) d_W_hollow_8 (by decide) (ir_b hr1) (fun c2 => ?_) (fun c2 => ?_)
  · rw [if_pos c2] at hF
    refine vj_aload_n G (p9 := 0) d_W_hollow_13 rfl rfl ?_
    refine gfC_W_52 G d_W_hollow_14 ?_
    refine vj_iload_n G (p9 := 1) d_W_hollow_17 rfl rfl ?_
    obtain ⟨r3, M3, e3, hF⟩ := bnd_some hF
    refine vj_callV3 G (ct_F_isHollow (gx_ij G) n x1 hx1 e3) lkC_5 clC_11 rfl q_998 cq_F_isHollow rfl (by decide) (by decide) (Nat.le_of_ble_eq_true rfl) d_W_hollow_18 rfl (fun hr3 => ?_)
    refine vj_if_eq G (tgt := 28) d_W_hollow_21 (by decide) (ir_b hr3) (fun c4 => ?_) (fun c4 => ?_)
    · rw [if_pos c4] at hF
      refine vj_iconst G (v := 0) d_W_hollow_28 rfl ?_
      cases hF
      exact vj_iret G0 ic_0 d_W_hollow_29
    · rw [if_neg c4] at hF
      refine vj_iconst G (v := 1) d_W_hollow_24 rfl ?_
      refine vj_goto G (tgt := 29) d_W_hollow_25 (by decide) ?_
      cases hF
      exact vj_iret G0 ic_1 d_W_hollow_29
  · rw [if_neg c2] at hF
    refine vj_iconst G (v := (-1)) d_W_hollow_11 rfl ?_
    cases hF
    exact vj_iret G0 ic_m1 d_W_hollow_12
set_option maxHeartbeats 4000000 in
set_option maxRecDepth 100000 in
theorem ct_U_voice {w : Wd} (hij : ij LC w) (n : Nat) (x1 : Int) (hx1 : inR x1) {M : Mm} {r : Int} {M9 : Mm} (hF : f_U_voice n x1 M = some (r, M9)) : Ct LC w y_U_voice b_U_voice 2 (some .int) 0 0 1 [.ref (wa w 3), .int (i32 x1)] M r M9 := by
  refine Ct.of hij KstC (by decide +kernel) (Nat.le_of_ble_eq_true rfl) (fun X G0 => ?_)
  have G := G0.1
  show VJ LC w X 2 1 r M9 M [(0, .ref (wa w 3)), (1, .int (i32 x1))] [] 0
  unfold f_U_voice at hF
  refine vj_aload_n G (p9 := 0) d_U_voice_0 rfl rfl ?_
  refine gfC_U_37 G d_U_voice_1 ?_
  refine vj_iload_n G (p9 := 1) d_U_voice_4 rfl rfl ?_
  obtain ⟨c1, hF⟩ := ck_some hF
  refine vj_iald G (x := x1) lkC_45 (by decide) c1 d_U_voice_5 ?_
  refine vj_mr (fun hM2 => ?_)
  refine vj_if_lt G (tgt := 18) d_U_voice_6 (by decide) (mr_a hM2 lkC_45) (fun c3 => ?_) (fun c3 => ?_)
  · rw [if_pos c3] at hF
    refine vj_iload_n G (p9 := 1) d_U_voice_18 rfl rfl ?_
    cases hF
    exact vj_iret G0 hx1 d_U_voice_19
  · rw [if_neg c3] at hF
    refine vj_aload_n G (p9 := 0) d_U_voice_9 rfl rfl ?_
    refine gfC_U_37 G d_U_voice_10 ?_
    refine vj_iload_n G (p9 := 1) d_U_voice_13 rfl rfl ?_
    obtain ⟨c4, hF⟩ := ck_some hF
    refine vj_iald G (x := x1) lkC_45 (by decide) c4 d_U_voice_14 ?_
    refine vj_mr (fun hM5 => ?_)
    refine vj_goto G (tgt := 19) d_U_voice_15 (by decide) ?_
    cases hF
    exact vj_iret G0 (mr_a hM5 lkC_45) d_U_voice_19
set_option maxHeartbeats 4000000 in
set_option maxRecDepth 100000 in
theorem wk_S_sumBlocks_77 {w : Wd} {X : Cx} {r : Int} {M9 : Mm} (G0 : Gx LC w X "WhoRules$Search" b_S_sumBlocks 5 1 23 (some .int)) (n : Nat) (k12 : Int → Int → Int → Mm → Rr) (hk12 : ∀ (x1 x2 x3 : Int) (hx1 : inR x1) (hx2 : inR x2) (hx3 : inR x3) (M : Mm), k12 x1 x2 x3 M = some (r, M9) → VJ LC w X 5 1 r M9 M [(0, .ref (wa w 4)), (1, .int (i32 x1)), (2, .int (i32 x2)), (3, .int (i32 x3))] [] 12) (x1 x3 s0 s1 : Int) (hx1 : inR x1) (hx3 : inR x3) (hs0 : inR s0) (hs1 : inR s1) (M : Mm) (hF : f_S_sumBlocks_77 n k12 x1 x3 s0 s1 M = some (r, M9)) : VJ LC w X 5 1 r M9 M [(0, .ref (wa w 4)), (1, .int (i32 x1)), (3, .int (i32 x3))] [.int (i32 s1), .int (i32 s0)] 77 := by
  have G := G0.1
  unfold f_S_sumBlocks_77 at hF
  refine vj_ior G d_S_sumBlocks_77 ?_
  refine vj_istore_n G (lv2 := [(2, .int (i32 (ior s0 s1))), (0, .ref (wa w 4)), (1, .int (i32 x1)), (3, .int (i32 x3))]) d_S_sumBlocks_78 rfl (by decide) rfl ?_
  refine vj_iinc G (p9 := 3) (n := 1) (lv2 := [(3, .int (i32 (w32 (x3 + 1)))), (2, .int (i32 (ior s0 s1))), (0, .ref (wa w 4)), (1, .int (i32 x1))]) d_S_sumBlocks_79 rfl (by decide) rfl ?_
  refine vj_goto G (tgt := 12) d_S_sumBlocks_82 (by decide) ?_
  refine vj_sub [2, 3, 1, 0] rfl ?_
  exact hk12 x1 (ior s0 s1) (w32 (x3 + 1)) hx1 (ir_or _ _) (ir_w _) _ hF
set_option maxHeartbeats 4000000 in
set_option maxRecDepth 100000 in
theorem wk_S_sumBlocks_12 {w : Wd} {X : Cx} {r : Int} {M9 : Mm} (G0 : Gx LC w X "WhoRules$Search" b_S_sumBlocks 5 1 23 (some .int)) (n : Nat) (k12 : Int → Int → Int → Mm → Rr) (hk12 : ∀ (x1 x2 x3 : Int) (hx1 : inR x1) (hx2 : inR x2) (hx3 : inR x3) (M : Mm), k12 x1 x2 x3 M = some (r, M9) → VJ LC w X 5 1 r M9 M [(0, .ref (wa w 4)), (1, .int (i32 x1)), (2, .int (i32 x2)), (3, .int (i32 x3))] [] 12) (x1 x2 x3 : Int) (hx1 : inR x1) (hx2 : inR x2) (hx3 : inR x3) (M : Mm) (hF : f_S_sumBlocks_12 n k12 x1 x2 x3 M = some (r, M9)) : VJ LC w X 5 1 r M9 M [(0, .ref (wa w 4)), (1, .int (i32 x1)), (2, .int (i32 x2)), (3, .int (i32 x3))] [] 12 := by
  have G := G0.1
  unfold f_S_sumBlocks_12 at hF
  refine vj_iload_n G (p9 := 3) d_S_sumBlocks_12 rfl rfl ?_
  refine vj_aload_n G (p9 := 0) d_S_sumBlocks_13 rfl rfl ?_
  refine gfC_S_38 G d_S_sumBlocks_14 ?_
  refine gfC_S_147 G d_S_sumBlocks_17 ?_
  refine vj_mr (fun hM1 => ?_)
  refine vj_icmp_ge G (tgt := 85) d_S_sumBlocks_20 (by decide) hx3 (mr_o hM1 lkC_1 flC_7_1) (fun c2 => ?_) (fun c2 => ?_)
  · rw [if_pos c2] at hF
    refine vj_iload_n G (p9 := 2) d_S_sumBlocks_85 rfl rfl ?_
    cases hF
    exact vj_iret G0 hx2 d_S_sumBlocks_86
  · rw [if_neg c2] at hF
    refine vj_aload_n G (p9 := 0) d_S_sumBlocks_23 rfl rfl ?_
    refine gfC_S_42 G d_S_sumBlocks_24 ?_
    refine vj_iload_n G (p9 := 3) d_S_sumBlocks_27 rfl rfl ?_
    obtain ⟨r3, M3, e3, hF⟩ := bnd_some hF
    refine vj_callV1 G (ct_U_voice (gx_ij G) n x3 hx3 e3) lkC_3 clC_9 rfl q_1012 cq_U_voice rfl (by decide) (by decide) (Nat.le_of_ble_eq_true rfl) d_S_sumBlocks_28 rfl (fun hr3 => ?_)
    refine vj_istore G (lv2 := [(4, .int (i32 r3)), (0, .ref (wa w 4)), (1, .int (i32 x1)), (2, .int (i32 x2)), (3, .int (i32 x3))]) d_S_sumBlocks_31 (by decide) rfl ?_
    refine vj_aload_n G (p9 := 1) d_S_sumBlocks_33 rfl rfl ?_
    refine gfC_S_26 G d_S_sumBlocks_34 ?_
    refine vj_iload G (p9 := 0) d_S_sumBlocks_37 rfl ?_
    refine vj_dup2_11 G d_S_sumBlocks_39 rfl rfl ?_
    obtain ⟨c4, hF⟩ := ck_some hF
    refine vj_iald G (x := r3) lkC_52 (by decide) c4 d_S_sumBlocks_40 ?_
    refine vj_mr (fun hM5 => ?_)
    refine vj_aload_n G (p9 := 1) d_S_sumBlocks_41 rfl rfl ?_
    refine gfC_S_42 G d_S_sumBlocks_42 ?_
    refine gfC_S_97 G d_S_sumBlocks_45 ?_
    refine vj_iload_n G (p9 := 2) d_S_sumBlocks_48 rfl rfl ?_
    obtain ⟨c6, hF⟩ := ck_some hF
    refine vj_aald5 G (x := x1) lkC_42 (by decide) c6 d_S_sumBlocks_49 ?_
    refine vj_iload_n G (p9 := 4) d_S_sumBlocks_50 rfl rfl ?_
    obtain ⟨c7, hF⟩ := ck_some hF
    refine vj_iald G (x := x3) (lkC_r130 c6) (by decide) c7 d_S_sumBlocks_51 ?_
    refine vj_iadd G d_S_sumBlocks_52 ?_
    obtain ⟨c8, hF⟩ := ck_some hF
    refine vj_iast G (x := r3) lkC_52 (by decide) (by decide) (by decide) c8 (ir_w _) d_S_sumBlocks_53 ?_
    refine vj_iload_n G (p9 := 3) d_S_sumBlocks_54 rfl rfl ?_
    refine vj_aload_n G (p9 := 1) d_S_sumBlocks_55 rfl rfl ?_
    refine gfC_S_42 G d_S_sumBlocks_56 ?_
    refine gfC_S_97 G d_S_sumBlocks_59 ?_
    refine vj_iload_n G (p9 := 2) d_S_sumBlocks_62 rfl rfl ?_
    obtain ⟨c9, hF⟩ := ck_some hF
    refine vj_aald5 G (x := x1) lkC_42 (by decide) c9 d_S_sumBlocks_63 ?_
    refine vj_iload_n G (p9 := 4) d_S_sumBlocks_64 rfl rfl ?_
    obtain ⟨c10, hF⟩ := ck_some hF
    refine vj_iald G (x := x3) (lkC_r130 c9) (by decide) c10 d_S_sumBlocks_65 ?_
    refine vj_mr (fun hM11 => ?_)
    refine vj_if_le G (tgt := 76) d_S_sumBlocks_66 (by decide) (mr_a hM11 (lkC_r130 c9)) (fun c12 => ?_) (fun c12 => ?_)
    · rw [if_pos c12] at hF
      refine vj_iconst G (v := 0) d_S_sumBlocks_76 rfl ?_
      refine vj_sub [1, 2, 4] rfl ?_
      exact wk_S_sumBlocks_77 G0 n k12 hk12 x1 x3 x2 0 hx1 hx3 hx2 ic_0 _ hF
    · rw [if_neg c12] at hF
      refine vj_iconst G (v := 1) d_S_sumBlocks_69 rfl ?_
      refine vj_iload G (p9 := 0) d_S_sumBlocks_70 rfl ?_
      refine vj_ishl G d_S_sumBlocks_72 ?_
      refine vj_goto G (tgt := 77) d_S_sumBlocks_73 (by decide) ?_
      refine vj_sub [1, 2, 4] rfl ?_
      exact wk_S_sumBlocks_77 G0 n k12 hk12 x1 x3 x2 (ish 1 r3) hx1 hx3 hx2 (ir_sh _ _) _ hF
set_option maxHeartbeats 4000000 in
set_option maxRecDepth 100000 in
theorem wl_S_sumBlocks_12 {w : Wd} {X : Cx} {r : Int} {M9 : Mm} (G0 : Gx LC w X "WhoRules$Search" b_S_sumBlocks 5 1 23 (some .int)) (n : Nat) : ∀ (f : Nat) (x1 x2 x3 : Int) (hx1 : inR x1) (hx2 : inR x2) (hx3 : inR x3) (M : Mm), lp_S_sumBlocks_12 n f x1 x2 x3 M = some (r, M9) → VJ LC w X 5 1 r M9 M [(0, .ref (wa w 4)), (1, .int (i32 x1)), (2, .int (i32 x2)), (3, .int (i32 x3))] [] 12 := by
  intro f
  induction f with
  | zero => intro x1 x2 x3 hx1 hx2 hx3 M hF; cases hF
  | succ f ih => intro x1 x2 x3 hx1 hx2 hx3 M hF; exact wk_S_sumBlocks_12 G0 n (lp_S_sumBlocks_12 n f) ih x1 x2 x3 hx1 hx2 hx3 M hF
set_option maxHeartbeats 4000000 in
set_option maxRecDepth 100000 in
theorem ct_S_sumBlocks {w : Wd} (hij : ij LC w) (n : Nat) (x1 : Int) (hx1 : inR x1) {M : Mm} {r : Int} {M9 : Mm} (hF : f_S_sumBlocks n x1 M = some (r, M9)) : Ct LC w y_S_sumBlocks b_S_sumBlocks 5 (some .int) 1 23 1 [.ref (wa w 4), .int (i32 x1)] M r M9 := by
  refine Ct.of hij KstC (by decide +kernel) (Nat.le_of_ble_eq_true rfl) (fun X G0 => ?_)
  have G := G0.1
  show VJ LC w X 5 1 r M9 M [(0, .ref (wa w 4)), (1, .int (i32 x1))] [] 0
  unfold f_S_sumBlocks at hF
  refine vj_aload_n G (p9 := 0) d_S_sumBlocks_0 rfl rfl ?_
  refine gfC_S_26 G d_S_sumBlocks_1 ?_
  refine vj_iconst G (v := 0) d_S_sumBlocks_4 rfl ?_
  refine vj_fillI G lkC_52 (by decide) (by decide) (by decide) q_916 ic_0 (by decide) (by decide) (by decide) d_S_sumBlocks_5 ?_
  refine vj_iconst G (v := 0) d_S_sumBlocks_8 rfl ?_
  refine vj_istore_n G (lv2 := [(2, .int (i32 0)), (0, .ref (wa w 4)), (1, .int (i32 x1))]) d_S_sumBlocks_9 rfl (by decide) rfl ?_
  refine vj_iconst G (v := 0) d_S_sumBlocks_10 rfl ?_
  refine vj_istore_n G (lv2 := [(3, .int (i32 0)), (2, .int (i32 0)), (0, .ref (wa w 4)), (1, .int (i32 x1))]) d_S_sumBlocks_11 rfl (by decide) rfl ?_
  refine vj_sub [2, 3, 1, 0] rfl ?_
  exact wl_S_sumBlocks_12 G0 n  n x1 0 0 hx1 ic_0 ic_0 _ hF
set_option maxHeartbeats 4000000 in
set_option maxRecDepth 100000 in
theorem wk_S_listOthers_70 {w : Wd} {X : Cx} {r : Int} {M9 : Mm} (G0 : Gx LC w X "WhoRules$Search" b_S_listOthers 3 0 0 none) (n : Nat) (k70 : Int → Mm → Rr) (hk70 : ∀ (x2 : Int) (hx2 : inR x2) (M : Mm), k70 x2 M = some (r, M9) → VJ LC w X 3 0 r M9 M [(0, .ref (wa w 4)), (2, .int (i32 x2))] [] 70) (x2 : Int) (hx2 : inR x2) (M : Mm) (hF : f_S_listOthers_70 n k70 x2 M = some (r, M9)) : VJ LC w X 3 0 r M9 M [(0, .ref (wa w 4)), (2, .int (i32 x2))] [] 70 := by
  have G := G0.1
  unfold f_S_listOthers_70 at hF
  refine vj_iload_n G (p9 := 1) d_S_listOthers_70 rfl rfl ?_
  refine vj_if_lt G (tgt := 101) d_S_listOthers_71 (by decide) hx2 (fun c1 => ?_) (fun c1 => ?_)
  · rw [if_pos c1] at hF
    cases hF
    exact vj_vret G0 d_S_listOthers_101
  · rw [if_neg c1] at hF
    refine vj_aload_n G (p9 := 0) d_S_listOthers_74 rfl rfl ?_
    refine gfC_S_35 G d_S_listOthers_75 ?_
    refine vj_iload_n G (p9 := 1) d_S_listOthers_78 rfl rfl ?_
    refine vj_aload_n G (p9 := 0) d_S_listOthers_79 rfl rfl ?_
    refine gfC_S_35 G d_S_listOthers_80 ?_
    refine vj_iload_n G (p9 := 1) d_S_listOthers_83 rfl rfl ?_
    refine vj_iconst G (v := 1) d_S_listOthers_84 rfl ?_
    refine vj_iadd G d_S_listOthers_85 ?_
    obtain ⟨c2, hF⟩ := ck_some hF
    refine vj_iald G (x := w32 (x2 + 1)) lkC_55 (by decide) c2 d_S_listOthers_86 ?_
    refine vj_mr (fun hM3 => ?_)
    refine vj_aload_n G (p9 := 0) d_S_listOthers_87 rfl rfl ?_
    refine gfC_S_32 G d_S_listOthers_88 ?_
    refine vj_iload_n G (p9 := 1) d_S_listOthers_91 rfl rfl ?_
    obtain ⟨c4, hF⟩ := ck_some hF
    refine vj_iald G (x := x2) lkC_54 (by decide) c4 d_S_listOthers_92 ?_
    refine vj_iadd G d_S_listOthers_93 ?_
    obtain ⟨c5, hF⟩ := ck_some hF
    refine vj_iast G (x := x2) lkC_55 (by decide) (by decide) (by decide) c5 (ir_w _) d_S_listOthers_94 ?_
    refine vj_iinc G (p9 := 1) (n := (-1)) (lv2 := [(2, .int (i32 (w32 (x2 + (-1))))), (0, .ref (wa w 4))]) d_S_listOthers_95 rfl (by decide) rfl ?_
    refine vj_goto G (tgt := 70) d_S_listOthers_98 (by decide) ?_
    refine vj_sub [1, 0] rfl ?_
    exact hk70 (w32 (x2 + (-1))) (ir_w _) _ hF
set_option maxHeartbeats 4000000 in
set_option maxRecDepth 100000 in
theorem wl_S_listOthers_70 {w : Wd} {X : Cx} {r : Int} {M9 : Mm} (G0 : Gx LC w X "WhoRules$Search" b_S_listOthers 3 0 0 none) (n : Nat) : ∀ (f : Nat) (x2 : Int) (hx2 : inR x2) (M : Mm), lp_S_listOthers_70 n f x2 M = some (r, M9) → VJ LC w X 3 0 r M9 M [(0, .ref (wa w 4)), (2, .int (i32 x2))] [] 70 := by
  intro f
  induction f with
  | zero => intro x2 hx2 M hF; cases hF
  | succ f ih => intro x2 hx2 M hF; exact wk_S_listOthers_70 G0 n (lp_S_listOthers_70 n f) ih x2 hx2 M hF
set_option maxHeartbeats 4000000 in
set_option maxRecDepth 100000 in
theorem wk_S_listOthers_47 {w : Wd} {X : Cx} {r : Int} {M9 : Mm} (G0 : Gx LC w X "WhoRules$Search" b_S_listOthers 3 0 0 none) (n : Nat) (k7 : Int → Int → Mm → Rr) (hk7 : ∀ (x1 x2 : Int) (hx1 : inR x1) (hx2 : inR x2) (M : Mm), k7 x1 x2 M = some (r, M9) → VJ LC w X 3 0 r M9 M [(0, .ref (wa w 4)), (1, .int (i32 x1)), (2, .int (i32 x2))] [] 7) (x1 x2 : Int) (hx1 : inR x1) (hx2 : inR x2) (M : Mm) (hF : f_S_listOthers_47 n k7 x1 x2 M = some (r, M9)) : VJ LC w X 3 0 r M9 M [(0, .ref (wa w 4)), (1, .int (i32 x1)), (2, .int (i32 x2))] [] 47 := by
  have G := G0.1
  unfold f_S_listOthers_47 at hF
  refine vj_iinc G (p9 := 2) (n := 1) (lv2 := [(2, .int (i32 (w32 (x2 + 1)))), (0, .ref (wa w 4)), (1, .int (i32 x1))]) d_S_listOthers_47 rfl (by decide) rfl ?_
  refine vj_goto G (tgt := 7) d_S_listOthers_50 (by decide) ?_
  refine vj_sub [1, 2, 0] rfl ?_
  exact hk7 x1 (w32 (x2 + 1)) hx1 (ir_w _) _ hF
set_option maxHeartbeats 4000000 in
set_option maxRecDepth 100000 in
theorem wk_S_listOthers_7 {w : Wd} {X : Cx} {r : Int} {M9 : Mm} (G0 : Gx LC w X "WhoRules$Search" b_S_listOthers 3 0 0 none) (n : Nat) (k7 : Int → Int → Mm → Rr) (hk7 : ∀ (x1 x2 : Int) (hx1 : inR x1) (hx2 : inR x2) (M : Mm), k7 x1 x2 M = some (r, M9) → VJ LC w X 3 0 r M9 M [(0, .ref (wa w 4)), (1, .int (i32 x1)), (2, .int (i32 x2))] [] 7) (x1 x2 : Int) (hx1 : inR x1) (hx2 : inR x2) (M : Mm) (hF : f_S_listOthers_7 n k7 x1 x2 M = some (r, M9)) : VJ LC w X 3 0 r M9 M [(0, .ref (wa w 4)), (1, .int (i32 x1)), (2, .int (i32 x2))] [] 7 := by
  have G := G0.1
  unfold f_S_listOthers_7 at hF
  refine vj_iload_n G (p9 := 2) d_S_listOthers_7 rfl rfl ?_
  refine vj_bipush G (v := 16) d_S_listOthers_8 rfl ?_
  refine vj_icmp_ge G (tgt := 53) d_S_listOthers_10 (by decide) hx2 ic_16 (fun c1 => ?_) (fun c1 => ?_)
  · rw [if_pos c1] at hF
    refine vj_aload_n G (p9 := 0) d_S_listOthers_53 rfl rfl ?_
    refine gfC_S_35 G d_S_listOthers_54 ?_
    refine vj_aload_n G (p9 := 0) d_S_listOthers_57 rfl rfl ?_
    refine gfC_S_140 G d_S_listOthers_58 ?_
    refine vj_mr (fun hM2 => ?_)
    refine vj_iconst G (v := 0) d_S_listOthers_61 rfl ?_
    obtain ⟨c3, hF⟩ := ck_some hF
    refine vj_iast G (x := (M 4 11)) lkC_55 (by decide) (by decide) (by decide) c3 ic_0 d_S_listOthers_62 ?_
    refine vj_aload_n G (p9 := 0) d_S_listOthers_63 rfl rfl ?_
    refine gfC_S_140 G d_S_listOthers_64 ?_
    refine vj_mr (fun hM4 => ?_)
    refine vj_iconst G (v := 1) d_S_listOthers_67 rfl ?_
    refine vj_isub G d_S_listOthers_68 ?_
    refine vj_istore_n G (lv2 := [(2, .int (i32 (w32 (((mset M 55 (M 4 11).toNat 0) 4 11) - 1)))), (0, .ref (wa w 4)), (1, .int (i32 x1))]) d_S_listOthers_69 rfl (by decide) rfl ?_
    refine vj_sub [1, 0] rfl ?_
    exact wl_S_listOthers_70 G0 n  n (w32 (((mset M 55 (M 4 11).toNat 0) 4 11) - 1)) (ir_w _) _ hF
  · rw [if_neg c1] at hF
    refine vj_iload_n G (p9 := 1) d_S_listOthers_13 rfl rfl ?_
    refine vj_iload_n G (p9 := 2) d_S_listOthers_14 rfl rfl ?_
    refine vj_ishr G d_S_listOthers_15 ?_
    refine vj_iconst G (v := 1) d_S_listOthers_16 rfl ?_
    refine vj_iand G d_S_listOthers_17 ?_
    refine vj_iconst G (v := 1) d_S_listOthers_18 rfl ?_
    refine vj_icmp_ne G (tgt := 47) d_S_listOthers_19 (by decide) (ir_an _ _) ic_1 (fun c5 => ?_) (fun c5 => ?_)
    · rw [if_pos c5] at hF
      exact wk_S_listOthers_47 G0 n k7 hk7 x1 x2 hx1 hx2 _ hF
    · rw [if_neg c5] at hF
      refine vj_aload_n G (p9 := 0) d_S_listOthers_22 rfl rfl ?_
      refine gfC_S_32 G d_S_listOthers_23 ?_
      refine vj_aload_n G (p9 := 0) d_S_listOthers_26 rfl rfl ?_
      refine gfC_S_140 G d_S_listOthers_27 ?_
      refine vj_mr (fun hM6 => ?_)
      refine vj_aload_n G (p9 := 0) d_S_listOthers_30 rfl rfl ?_
      refine gfC_S_26 G d_S_listOthers_31 ?_
      refine vj_iload_n G (p9 := 2) d_S_listOthers_34 rfl rfl ?_
      obtain ⟨c7, hF⟩ := ck_some hF
      refine vj_iald G (x := x2) lkC_52 (by decide) c7 d_S_listOthers_35 ?_
      obtain ⟨c8, hF⟩ := ck_some hF
      refine vj_iast G (x := (M 4 11)) lkC_54 (by decide) (by decide) (by decide) c8 (mr_a hM6 lkC_52) d_S_listOthers_36 ?_
      refine vj_aload_n G (p9 := 0) d_S_listOthers_37 rfl rfl ?_
      refine vj_dup G d_S_listOthers_38 rfl ?_
      refine gfC_S_140 G d_S_listOthers_39 ?_
      refine vj_mr (fun hM9 => ?_)
      refine vj_iconst G (v := 1) d_S_listOthers_42 rfl ?_
      refine vj_iadd G d_S_listOthers_43 ?_
      refine pfC_S_140 G (ir_w _) d_S_listOthers_44 ?_
      exact wk_S_listOthers_47 G0 n k7 hk7 x1 x2 hx1 hx2 _ hF
set_option maxHeartbeats 4000000 in
set_option maxRecDepth 100000 in
theorem wl_S_listOthers_7 {w : Wd} {X : Cx} {r : Int} {M9 : Mm} (G0 : Gx LC w X "WhoRules$Search" b_S_listOthers 3 0 0 none) (n : Nat) : ∀ (f : Nat) (x1 x2 : Int) (hx1 : inR x1) (hx2 : inR x2) (M : Mm), lp_S_listOthers_7 n f x1 x2 M = some (r, M9) → VJ LC w X 3 0 r M9 M [(0, .ref (wa w 4)), (1, .int (i32 x1)), (2, .int (i32 x2))] [] 7 := by
  intro f
  induction f with
  | zero => intro x1 x2 hx1 hx2 M hF; cases hF
  | succ f ih => intro x1 x2 hx1 hx2 M hF; exact wk_S_listOthers_7 G0 n (lp_S_listOthers_7 n f) ih x1 x2 hx1 hx2 M hF
set_option maxHeartbeats 4000000 in
set_option maxRecDepth 100000 in
theorem ct_S_listOthers {w : Wd} (hij : ij LC w) (n : Nat) (x1 : Int) (hx1 : inR x1) {M : Mm} {r : Int} {M9 : Mm} (hF : f_S_listOthers n x1 M = some (r, M9)) : Ct LC w y_S_listOthers b_S_listOthers 3 none 0 0 0 [.ref (wa w 4), .int (i32 x1)] M r M9 := by
  refine Ct.of hij KstC (by decide +kernel) (Nat.le_of_ble_eq_true rfl) (fun X G0 => ?_)
  have G := G0.1
  show VJ LC w X 3 0 r M9 M [(0, .ref (wa w 4)), (1, .int (i32 x1))] [] 0
  unfold f_S_listOthers at hF
  refine vj_aload_n G (p9 := 0) d_S_listOthers_0 rfl rfl ?_
  refine vj_iconst G (v := 0) d_S_listOthers_1 rfl ?_
  refine pfC_S_140 G ic_0 d_S_listOthers_2 ?_
  refine vj_iconst G (v := 0) d_S_listOthers_5 rfl ?_
  refine vj_istore_n G (lv2 := [(2, .int (i32 0)), (0, .ref (wa w 4)), (1, .int (i32 x1))]) d_S_listOthers_6 rfl (by decide) rfl ?_
  refine vj_sub [1, 2, 0] rfl ?_
  exact wl_S_listOthers_7 G0 n  n x1 0 hx1 ic_0 _ hF
def HR_ways (w : Wd) (d : Nat) (rec : Nat → Int → Int → Int → Int → Mm → Rr) : Prop := (∀ (x2 x3 x4 x5 : Int) (M : Mm) (r : Int) (M1 : Mm), inR x2 → inR x3 → inR x4 → inR x5 → rec 0 x2 x3 x4 x5 M = some (r, M1) → Ct LC w y_S_ways b_S_ways 6 (some .int) (0 + d) (0 + 25 * d) 1 [.ref (wa w 54), .ref (wa w 55), .int (i32 x2), .int (i32 x3), .int (i32 x4), .int (i32 x5)] M r M1)
theorem hrec_S_ways {w : Wd} {d : Nat} {rec : Nat → Int → Int → Int → Int → Mm → Rr} (h : HR_ways w d rec) (x2 x3 x4 x5 : Int) (hx2 : inR x2) (hx3 : inR x3) (hx4 : inR x4) (hx5 : inR x5) {M : Mm} {r : Int} {M1 : Mm} (e : rec 0 x2 x3 x4 x5 M = some (r, M1)) : Ct LC w y_S_ways b_S_ways 6 (some .int) (0 + d) (0 + 25 * d) 1 [.ref (wa w 54), .ref (wa w 55), .int (i32 x2), .int (i32 x3), .int (i32 x4), .int (i32 x5)] M r M1 := h x2 x3 x4 x5 M r M1 hx2 hx3 hx4 hx5 e
set_option maxHeartbeats 4000000 in
set_option maxRecDepth 100000 in
theorem wk_S_ways_49 {w : Wd} {X : Cx} {r : Int} {M9 : Mm} {d : Nat} (G0 : Gx LC w X "WhoRules$Search" b_S_ways 6 (0 + d + 1) (0 + 25 * (d + 1)) (some .int)) (n : Nat) (rec : Nat → Int → Int → Int → Int → Mm → Rr) (hrec : HR_ways w d rec) (x2 x3 x4 x5 : Int) (hx2 : inR x2) (hx3 : inR x3) (hx4 : inR x4) (hx5 : inR x5) (M : Mm) (hF : f_S_ways_49 n rec x2 x3 x4 x5 M = some (r, M9)) : VJ LC w X 6 1 r M9 M [(0, .ref (wa w 54)), (1, .ref (wa w 55)), (2, .int (i32 x2)), (3, .int (i32 x3)), (4, .int (i32 x4)), (5, .int (i32 x5))] [] 49 := by
  have G := G0.1
  unfold f_S_ways_49 at hF
  refine vj_iload_n G (p9 := 2) d_S_ways_49 rfl rfl ?_
  refine vj_iload_n G (p9 := 3) d_S_ways_50 rfl rfl ?_
  refine vj_icmp_ne G (tgt := 56) d_S_ways_51 (by decide) hx2 hx3 (fun c1 => ?_) (fun c1 => ?_)
  · rw [if_pos c1] at hF
    refine vj_aload_n G (p9 := 0) d_S_ways_56 rfl rfl ?_
    refine vj_aload_n G (p9 := 1) d_S_ways_57 rfl rfl ?_
    refine vj_iload_n G (p9 := 2) d_S_ways_58 rfl rfl ?_
    refine vj_iconst G (v := 1) d_S_ways_59 rfl ?_
    refine vj_iadd G d_S_ways_60 ?_
    refine vj_iload_n G (p9 := 3) d_S_ways_61 rfl rfl ?_
    refine vj_iload G (p9 := 4) d_S_ways_62 rfl ?_
    refine vj_iload G (p9 := 5) d_S_ways_64 rfl ?_
    obtain ⟨r2, M2, e2, hF⟩ := bnd_some hF
    refine vj_callS1 G (hrec_S_ways hrec (w32 (x2 + 1)) x3 x4 x5 (ir_w _) hx3 hx4 hx5 e2) q_1024 cq_S_ways rfl (by omega) (by omega) (Nat.le_of_ble_eq_true rfl) d_S_ways_66 rfl (fun hr2 => ?_)
    refine vj_aload_n G (p9 := 0) d_S_ways_69 rfl rfl ?_
    refine vj_aload_n G (p9 := 1) d_S_ways_70 rfl rfl ?_
    refine vj_iload_n G (p9 := 2) d_S_ways_71 rfl rfl ?_
    refine vj_iconst G (v := 1) d_S_ways_72 rfl ?_
    refine vj_iadd G d_S_ways_73 ?_
    refine vj_iload_n G (p9 := 3) d_S_ways_74 rfl rfl ?_
    refine vj_iload G (p9 := 4) d_S_ways_75 rfl ?_
    refine vj_aload_n G (p9 := 0) d_S_ways_77 rfl rfl ?_
    refine vj_iload_n G (p9 := 2) d_S_ways_78 rfl rfl ?_
    obtain ⟨c3, hF⟩ := ck_some hF
    refine vj_iald G (x := x2) lkC_54 (by decide) c3 d_S_ways_79 ?_
    refine vj_mr (fun hM4 => ?_)
    refine vj_isub G d_S_ways_80 ?_
    refine vj_iload G (p9 := 5) d_S_ways_81 rfl ?_
    refine vj_aload_n G (p9 := 0) d_S_ways_83 rfl rfl ?_
    refine vj_iload_n G (p9 := 2) d_S_ways_84 rfl rfl ?_
    obtain ⟨c5, hF⟩ := ck_some hF
    refine vj_iald G (x := x2) lkC_54 (by decide) c5 d_S_ways_85 ?_
    refine vj_isub G d_S_ways_86 ?_
    obtain ⟨r6, M6, e6, hF⟩ := bnd_some hF
    refine vj_callS1 G (hrec_S_ways hrec (w32 (x2 + 1)) x3 (w32 (x4 - (M2 54 x2.toNat))) (w32 (x5 - (M2 54 x2.toNat))) (ir_w _) hx3 (ir_w _) (ir_w _) e6) q_1024 cq_S_ways rfl (by omega) (by omega) (Nat.le_of_ble_eq_true rfl) d_S_ways_87 rfl (fun hr6 => ?_)
    refine vj_iadd G d_S_ways_90 ?_
    cases hF
    exact vj_iret G0 (ir_w _) d_S_ways_91
  · rw [if_neg c1] at hF
    refine vj_iconst G (v := 0) d_S_ways_54 rfl ?_
    cases hF
    exact vj_iret G0 ic_0 d_S_ways_55
set_option maxHeartbeats 4000000 in
set_option maxRecDepth 100000 in
theorem cr_S_ways {w : Wd} {d : Nat} (hij : ij LC w) (n : Nat) (rec : Nat → Int → Int → Int → Int → Mm → Rr) (hrec : HR_ways w d rec) (x2 x3 x4 x5 : Int) (hx2 : inR x2) (hx3 : inR x3) (hx4 : inR x4) (hx5 : inR x5) {M : Mm} {r : Int} {M9 : Mm} (hF : f_S_ways n rec x2 x3 x4 x5 M = some (r, M9)) : Ct LC w y_S_ways b_S_ways 6 (some .int) (0 + d + 1) (0 + 25 * (d + 1)) 1 [.ref (wa w 54), .ref (wa w 55), .int (i32 x2), .int (i32 x3), .int (i32 x4), .int (i32 x5)] M r M9 := by
  refine Ct.of hij KstC (by decide +kernel) (Nat.le_of_ble_eq_true rfl) (fun X G0 => ?_)
  have G := G0.1
  show VJ LC w X 6 1 r M9 M [(0, .ref (wa w 54)), (1, .ref (wa w 55)), (2, .int (i32 x2)), (3, .int (i32 x3)), (4, .int (i32 x4)), (5, .int (i32 x5))] [] 0
  unfold f_S_ways at hF
  refine vj_iload_n G (p9 := 2) d_S_ways_0 rfl rfl ?_
  refine vj_if_lt G (tgt := 28) d_S_ways_1 (by decide) hx2 (fun c1 => ?_) (fun c1 => ?_)
  · rw [if_pos c1] at hF
    refine vj_iconst G (v := 0) d_S_ways_28 rfl ?_
    cases hF
    exact vj_iret G0 ic_0 d_S_ways_29
  · rw [if_neg c1] at hF
    refine vj_iload_n G (p9 := 2) d_S_ways_4 rfl rfl ?_
    refine vj_iload_n G (p9 := 3) d_S_ways_5 rfl rfl ?_
    refine vj_icmp_gt G (tgt := 28) d_S_ways_6 (by decide) hx2 hx3 (fun c2 => ?_) (fun c2 => ?_)
    · rw [if_pos c2] at hF
      refine vj_iconst G (v := 0) d_S_ways_28 rfl ?_
      cases hF
      exact vj_iret G0 ic_0 d_S_ways_29
    · rw [if_neg c2] at hF
      refine vj_iload_n G (p9 := 3) d_S_ways_9 rfl rfl ?_
      refine vj_bipush G (v := 16) d_S_ways_10 rfl ?_
      refine vj_icmp_gt G (tgt := 28) d_S_ways_12 (by decide) hx3 ic_16 (fun c3 => ?_) (fun c3 => ?_)
      · rw [if_pos c3] at hF
        refine vj_iconst G (v := 0) d_S_ways_28 rfl ?_
        cases hF
        exact vj_iret G0 ic_0 d_S_ways_29
      · rw [if_neg c3] at hF
        refine vj_iload G (p9 := 5) d_S_ways_15 rfl ?_
        refine vj_if_lt G (tgt := 28) d_S_ways_17 (by decide) hx5 (fun c4 => ?_) (fun c4 => ?_)
        · rw [if_pos c4] at hF
          refine vj_iconst G (v := 0) d_S_ways_28 rfl ?_
          cases hF
          exact vj_iret G0 ic_0 d_S_ways_29
        · rw [if_neg c4] at hF
          refine vj_iload G (p9 := 4) d_S_ways_20 rfl ?_
          refine vj_aload_n G (p9 := 1) d_S_ways_22 rfl rfl ?_
          refine vj_iload_n G (p9 := 2) d_S_ways_23 rfl rfl ?_
          obtain ⟨c5, hF⟩ := ck_some hF
          refine vj_iald G (x := x2) lkC_55 (by decide) c5 d_S_ways_24 ?_
          refine vj_mr (fun hM6 => ?_)
          refine vj_icmp_le G (tgt := 30) d_S_ways_25 (by decide) hx4 (mr_a hM6 lkC_55) (fun c7 => ?_) (fun c7 => ?_)
          · rw [if_pos c7] at hF
            refine vj_iload G (p9 := 4) d_S_ways_30 rfl ?_
            refine vj_if_gt G (tgt := 49) d_S_ways_32 (by decide) hx4 (fun c8 => ?_) (fun c8 => ?_)
            · rw [if_pos c8] at hF
              exact wk_S_ways_49 G0 n rec hrec  x2 x3 x4 x5 hx2 hx3 hx4 hx5 _ hF
            · rw [if_neg c8] at hF
              refine vj_iload G (p9 := 5) d_S_ways_35 rfl ?_
              refine vj_aload_n G (p9 := 1) d_S_ways_37 rfl rfl ?_
              refine vj_iload_n G (p9 := 2) d_S_ways_38 rfl rfl ?_
              obtain ⟨c9, hF⟩ := ck_some hF
              refine vj_iald G (x := x2) lkC_55 (by decide) c9 d_S_ways_39 ?_
              refine vj_mr (fun hM10 => ?_)
              refine vj_icmp_lt G (tgt := 49) d_S_ways_40 (by decide) hx5 (mr_a hM10 lkC_55) (fun c11 => ?_) (fun c11 => ?_)
              · rw [if_pos c11] at hF
                exact wk_S_ways_49 G0 n rec hrec  x2 x3 x4 x5 hx2 hx3 hx4 hx5 _ hF
              · rw [if_neg c11] at hF
                refine vj_iconst G (v := 1) d_S_ways_43 rfl ?_
                refine vj_iload_n G (p9 := 3) d_S_ways_44 rfl rfl ?_
                refine vj_iload_n G (p9 := 2) d_S_ways_45 rfl rfl ?_
                refine vj_isub G d_S_ways_46 ?_
                refine vj_ishl G d_S_ways_47 ?_
                cases hF
                exact vj_iret G0 (ir_sh _ _) d_S_ways_48
          · rw [if_neg c7] at hF
            refine vj_iconst G (v := 0) d_S_ways_28 rfl ?_
            cases hF
            exact vj_iret G0 ic_0 d_S_ways_29
theorem cg_ways {w : Wd} (hij : ij LC w) (n : Nat) : ∀ d : Nat, HR_ways w d (g_ways n d) := by
  intro d
  induction d with
  | zero => exact (fun _ _ _ _ _ _ _ _ _ _ _ e => by cases e)
  | succ d ih => exact (fun x2 x3 x4 x5 M r M1 hx2 hx3 hx4 hx5 e => cr_S_ways hij n (g_ways n d) ih x2 x3 x4 x5 hx2 hx3 hx4 hx5 e)
theorem ct_S_ways {w : Wd} (hij : ij LC w) (n d : Nat) (x2 x3 x4 x5 : Int) (hx2 : inR x2) (hx3 : inR x3) (hx4 : inR x4) (hx5 : inR x5) {M : Mm} {r : Int} {M1 : Mm} (e : g_ways n d 0 x2 x3 x4 x5 M = some (r, M1)) : Ct LC w y_S_ways b_S_ways 6 (some .int) (0 + d) (0 + 25 * d) 1 [.ref (wa w 54), .ref (wa w 55), .int (i32 x2), .int (i32 x3), .int (i32 x4), .int (i32 x5)] M r M1 := hrec_S_ways (cg_ways hij n d) x2 x3 x4 x5 hx2 hx3 hx4 hx5 e
set_option maxHeartbeats 4000000 in
set_option maxRecDepth 100000 in
theorem wk_S_turns_189 {w : Wd} {X : Cx} {r : Int} {M9 : Mm} (G0 : Gx LC w X "WhoRules$Search" b_S_turns 7 21 525 (some .int)) (n : Nat) (x3 s0 s1 : Int) (hx3 : inR x3) (hs0 : inR s0) (hs1 : inR s1) (M : Mm) (hF : f_S_turns_189 n x3 s0 s1 M = some (r, M9)) : VJ LC w X 7 1 r M9 M [(0, .ref (wa w 4)), (3, .int (i32 x3))] [.int (i32 s1), .int (i32 s0)] 189 := by
  have G := G0.1
  unfold f_S_turns_189 at hF
  refine vj_isub G d_S_turns_189 ?_
  refine vj_istore G (lv2 := [(6, .int (i32 (w32 (s0 - s1)))), (0, .ref (wa w 4)), (3, .int (i32 x3))]) d_S_turns_190 (by decide) rfl ?_
  refine vj_aload_n G (p9 := 1) d_S_turns_192 rfl rfl ?_
  refine gfC_S_32 G d_S_turns_193 ?_
  refine vj_aload_n G (p9 := 1) d_S_turns_196 rfl rfl ?_
  refine gfC_S_35 G d_S_turns_197 ?_
  refine vj_iconst G (v := 0) d_S_turns_200 rfl ?_
  refine vj_aload_n G (p9 := 1) d_S_turns_201 rfl rfl ?_
  refine gfC_S_140 G d_S_turns_202 ?_
  refine vj_mr (fun hM1 => ?_)
  refine vj_iload G (p9 := 0) d_S_turns_205 rfl ?_
  refine vj_iconst G (v := 1) d_S_turns_207 rfl ?_
  refine vj_iadd G d_S_turns_208 ?_
  refine vj_aload_n G (p9 := 1) d_S_turns_209 rfl rfl ?_
  refine gfC_S_26 G d_S_turns_210 ?_
  refine vj_iload_n G (p9 := 2) d_S_turns_213 rfl rfl ?_
  obtain ⟨c2, hF⟩ := ck_some hF
  refine vj_iald G (x := x3) lkC_52 (by decide) c2 d_S_turns_214 ?_
  refine vj_isub G d_S_turns_215 ?_
  refine vj_iload G (p9 := 0) d_S_turns_216 rfl ?_
  obtain ⟨r3, M3, e3, hF⟩ := bnd_some hF
  refine vj_callS1 G (ct_S_ways (gx_ij G) n 20 0 (M 4 11) (w32 ((w32 ((w32 (s0 - s1)) + 1)) - (M 52 x3.toNat))) (w32 (s0 - s1)) ic_0 (mr_o hM1 lkC_4 flC_10_11) (ir_w _) (ir_w _) e3) q_1024 cq_S_ways rfl (by decide) (by decide) (Nat.le_of_ble_eq_true rfl) d_S_turns_218 rfl (fun hr3 => ?_)
  cases hF
  exact vj_iret G0 hr3 d_S_turns_221
set_option maxHeartbeats 4000000 in
set_option maxRecDepth 100000 in
theorem wk_S_turns_64 {w : Wd} {X : Cx} {r : Int} {M9 : Mm} (G0 : Gx LC w X "WhoRules$Search" b_S_turns 7 21 525 (some .int)) (n : Nat) (x1 x3 s0 : Int) (hx1 : inR x1) (hx3 : inR x3) (hs0 : inR s0) (M : Mm) (hF : f_S_turns_64 n x1 x3 s0 M = some (r, M9)) : VJ LC w X 7 1 r M9 M [(0, .ref (wa w 4)), (1, .int (i32 x1)), (3, .int (i32 x3))] [.int (i32 s0)] 64 := by
  have G := G0.1
  unfold f_S_turns_64 at hF
  refine vj_istore G (lv2 := [(4, .int (i32 s0)), (0, .ref (wa w 4)), (1, .int (i32 x1)), (3, .int (i32 x3))]) d_S_turns_64 (by decide) rfl ?_
  refine vj_aload_n G (p9 := 1) d_S_turns_66 rfl rfl ?_
  refine vj_iload_n G (p9 := 2) d_S_turns_67 rfl rfl ?_
  obtain ⟨r1, M1, e1, hF⟩ := bnd_some hF
  refine vj_callV1 G (ct_S_sumBlocks (gx_ij G) n x1 hx1 e1) lkC_4 clC_10 rfl q_1016 cq_S_sumBlocks rfl (by decide) (by decide) (Nat.le_of_ble_eq_true rfl) d_S_turns_68 rfl (fun hr1 => ?_)
  refine vj_iload G (p9 := 0) d_S_turns_71 rfl ?_
  refine vj_ior G d_S_turns_73 ?_
  refine vj_istore G (lv2 := [(5, .int (i32 (ior r1 s0))), (4, .int (i32 s0)), (0, .ref (wa w 4)), (1, .int (i32 x1)), (3, .int (i32 x3))]) d_S_turns_74 (by decide) rfl ?_
  refine vj_iload G (p9 := 0) d_S_turns_76 rfl ?_
  refine vj_iload_n G (p9 := 4) d_S_turns_78 rfl rfl ?_
  refine vj_ishr G d_S_turns_79 ?_
  refine vj_iconst G (v := 1) d_S_turns_80 rfl ?_
  refine vj_iand G d_S_turns_81 ?_
  refine vj_if_ne G (tgt := 87) d_S_turns_82 (by decide) (ir_an _ _) (fun c2 => ?_) (fun c2 => ?_)
  · rw [if_pos c2] at hF
    refine vj_aload_n G (p9 := 2) d_S_turns_87 rfl rfl ?_
    refine vj_iload G (p9 := 0) d_S_turns_88 rfl ?_
    refine vj_iconst G (v := 1) d_S_turns_90 rfl ?_
    refine vj_iload_n G (p9 := 4) d_S_turns_91 rfl rfl ?_
    refine vj_ishl G d_S_turns_92 ?_
    refine vj_iconst G (v := (-1)) d_S_turns_93 rfl ?_
    refine vj_ixor G d_S_turns_94 ?_
    refine vj_iand G d_S_turns_95 ?_
    refine vj_iload G (p9 := 1) d_S_turns_96 rfl ?_
    refine vj_iconst G (v := (-1)) d_S_turns_98 rfl ?_
    refine vj_ixor G d_S_turns_99 ?_
    refine vj_iand G d_S_turns_100 ?_
    obtain ⟨r3, M3, e3, hF⟩ := bnd_some hF
    refine vj_callV0 G (ct_S_listOthers (gx_ij G) n (ian (ian (ior r1 s0) (ixo (ish 1 x3) (-1))) (ixo s0 (-1))) (ir_an _ _) e3) lkC_4 clC_10 rfl q_1020 cq_S_listOthers rfl (by decide) (by decide) (Nat.le_of_ble_eq_true rfl) d_S_turns_101 rfl (fun hr3 => ?_)
    refine vj_aload_n G (p9 := 2) d_S_turns_104 rfl rfl ?_
    refine gfC_S_42 G d_S_turns_105 ?_
    refine gfC_S_100 G d_S_turns_108 ?_
    refine vj_iload_n G (p9 := 3) d_S_turns_111 rfl rfl ?_
    obtain ⟨c4, hF⟩ := ck_some hF
    refine vj_iald G (x := x1) lkC_44 (by decide) c4 d_S_turns_112 ?_
    refine vj_mr (fun hM5 => ?_)
    refine vj_istore G (lv2 := [(6, .int (i32 (M3 44 x1.toNat))), (5, .int (i32 (ior r1 s0))), (4, .int (i32 s0)), (0, .ref (wa w 4)), (1, .int (i32 x1)), (3, .int (i32 x3))]) d_S_turns_113 (by decide) rfl ?_
    refine vj_iload G (p9 := 2) d_S_turns_115 rfl ?_
    refine vj_iconst G (v := 1) d_S_turns_117 rfl ?_
    refine vj_iload_n G (p9 := 5) d_S_turns_118 rfl rfl ?_
    refine vj_ishl G d_S_turns_119 ?_
    refine vj_icmp_ne G (tgt := 157) d_S_turns_120 (by decide) hs0 (ir_sh _ _) (fun c6 => ?_) (fun c6 => ?_)
    · rw [if_pos c6] at hF
      refine vj_iload G (p9 := 0) d_S_turns_157 rfl ?_
      refine vj_iload G (p9 := 2) d_S_turns_159 rfl ?_
      refine vj_if_ne G (tgt := 168) d_S_turns_161 (by decide) hs0 (fun c7 => ?_) (fun c7 => ?_)
      · rw [if_pos c7] at hF
        refine vj_aload_n G (p9 := 3) d_S_turns_168 rfl rfl ?_
        refine gfC_S_26 G d_S_turns_169 ?_
        refine vj_aload_n G (p9 := 3) d_S_turns_172 rfl rfl ?_
        refine gfC_S_42 G d_S_turns_173 ?_
        refine vj_aload_n G (p9 := 3) d_S_turns_176 rfl rfl ?_
        refine gfC_S_42 G d_S_turns_177 ?_
        refine gfC_S_88 G d_S_turns_180 ?_
        refine vj_iload_n G (p9 := 4) d_S_turns_183 rfl rfl ?_
        obtain ⟨c8, hF⟩ := ck_some hF
        refine vj_iald G (x := x1) lkC_43 (by decide) c8 d_S_turns_184 ?_
        refine vj_mr (fun hM9 => ?_)
        obtain ⟨r10, M10, e10, hF⟩ := bnd_some hF
        refine vj_callV1 G (ct_U_voice (gx_ij G) n (M3 43 x1.toNat) (mr_a hM9 lkC_43) e10) lkC_3 clC_9 rfl q_1012 cq_U_voice rfl (by decide) (by decide) (Nat.le_of_ble_eq_true rfl) d_S_turns_185 rfl (fun hr10 => ?_)
        obtain ⟨c11, hF⟩ := ck_some hF
        refine vj_iald G (x := r10) lkC_52 (by decide) c11 d_S_turns_188 ?_
        refine vj_mr (fun hM12 => ?_)
        refine vj_sub [3, 5] rfl ?_
        exact wk_S_turns_189 G0 n  x3 (M3 44 x1.toNat) (M10 52 r10.toNat) hx3 (mr_a hM5 lkC_44) (mr_a hM12 lkC_52) _ hF
      · rw [if_neg c7] at hF
        refine vj_iconst G (v := 0) d_S_turns_164 rfl ?_
        refine vj_goto G (tgt := 189) d_S_turns_165 (by decide) ?_
        refine vj_sub [3, 5] rfl ?_
        exact wk_S_turns_189 G0 n  x3 (M3 44 x1.toNat) 0 hx3 (mr_a hM5 lkC_44) ic_0 _ hF
    · rw [if_neg c6] at hF
      refine vj_aload_n G (p9 := 3) d_S_turns_123 rfl rfl ?_
      refine gfC_S_32 G d_S_turns_124 ?_
      refine vj_aload_n G (p9 := 3) d_S_turns_127 rfl rfl ?_
      refine gfC_S_35 G d_S_turns_128 ?_
      refine vj_iconst G (v := 0) d_S_turns_131 rfl ?_
      refine vj_aload_n G (p9 := 3) d_S_turns_132 rfl rfl ?_
      refine gfC_S_140 G d_S_turns_133 ?_
      refine vj_mr (fun hM13 => ?_)
      refine vj_iload G (p9 := 0) d_S_turns_136 rfl ?_
      refine vj_iconst G (v := 1) d_S_turns_138 rfl ?_
      refine vj_iadd G d_S_turns_139 ?_
      refine vj_aload_n G (p9 := 3) d_S_turns_140 rfl rfl ?_
      refine gfC_S_26 G d_S_turns_141 ?_
      refine vj_iload_n G (p9 := 5) d_S_turns_144 rfl rfl ?_
      obtain ⟨c14, hF⟩ := ck_some hF
      refine vj_iald G (x := x3) lkC_52 (by decide) c14 d_S_turns_145 ?_
      refine vj_isub G d_S_turns_146 ?_
      refine vj_aload_n G (p9 := 3) d_S_turns_147 rfl rfl ?_
      refine gfC_S_35 G d_S_turns_148 ?_
      refine vj_iconst G (v := 0) d_S_turns_151 rfl ?_
      refine vj_iald G (x := 0) lkC_55 (by decide) ⟨by decide, by decide⟩ d_S_turns_152 ?_
      obtain ⟨r15, M15, e15, hF⟩ := bnd_some hF
      refine vj_callS1 G (ct_S_ways (gx_ij G) n 20 0 (M3 4 11) (w32 ((w32 ((M3 44 x1.toNat) + 1)) - (M3 52 x3.toNat))) (M3 55 (0 : Int).toNat) ic_0 (mr_o hM13 lkC_4 flC_10_11) (ir_w _) (mr_a hM13 lkC_55) e15) q_1024 cq_S_ways rfl (by decide) (by decide) (Nat.le_of_ble_eq_true rfl) d_S_turns_153 rfl (fun hr15 => ?_)
      cases hF
      exact vj_iret G0 hr15 d_S_turns_156
  · rw [if_neg c2] at hF
    refine vj_iconst G (v := 0) d_S_turns_85 rfl ?_
    cases hF
    exact vj_iret G0 ic_0 d_S_turns_86
set_option maxHeartbeats 4000000 in
set_option maxRecDepth 100000 in
theorem ct_S_turns {w : Wd} (hij : ij LC w) (n : Nat) (x1 x2 : Int) (hx1 : inR x1) (hx2 : inR x2) {M : Mm} {r : Int} {M9 : Mm} (hF : f_S_turns n x1 x2 M = some (r, M9)) : Ct LC w y_S_turns b_S_turns 7 (some .int) 21 525 1 [.ref (wa w 4), .int (i32 x1), .int (i32 x2)] M r M9 := by
  refine Ct.of hij KstC (by decide +kernel) (Nat.le_of_ble_eq_true rfl) (fun X G0 => ?_)
  have G := G0.1
  show VJ LC w X 7 1 r M9 M [(0, .ref (wa w 4)), (1, .int (i32 x1)), (2, .int (i32 x2))] [] 0
  unfold f_S_turns at hF
  refine vj_aload_n G (p9 := 0) d_S_turns_0 rfl rfl ?_
  refine gfC_S_42 G d_S_turns_1 ?_
  refine vj_aload_n G (p9 := 0) d_S_turns_4 rfl rfl ?_
  refine gfC_S_38 G d_S_turns_5 ?_
  refine gfC_S_122 G d_S_turns_8 ?_
  refine vj_mr (fun hM1 => ?_)
  obtain ⟨r2, M2, e2, hF⟩ := bnd_some hF
  refine vj_callV0 G (ct_U_look (gx_ij G) n (M 1 0) (mr_o hM1 lkC_1 flC_7_0) e2) lkC_3 clC_9 rfl q_1010 cq_U_look rfl (by decide) (by decide) (Nat.le_of_ble_eq_true rfl) d_S_turns_11 rfl (fun hr2 => ?_)
  refine vj_aload_n G (p9 := 0) d_S_turns_14 rfl rfl ?_
  refine gfC_S_42 G d_S_turns_15 ?_
  obtain ⟨r3, M3, e3, hF⟩ := bnd_some hF
  refine vj_callV0 G (ct_U_least (gx_ij G) n   e3) lkC_3 clC_9 rfl q_1011 cq_U_least rfl (by decide) (by decide) (Nat.le_of_ble_eq_true rfl) d_S_turns_18 rfl (fun hr3 => ?_)
  refine vj_aload_n G (p9 := 0) d_S_turns_21 rfl rfl ?_
  refine gfC_S_42 G d_S_turns_22 ?_
  refine vj_iload_n G (p9 := 2) d_S_turns_25 rfl rfl ?_
  obtain ⟨r4, M4, e4, hF⟩ := bnd_some hF
  refine vj_callV1 G (ct_U_voice (gx_ij G) n x2 hx2 e4) lkC_3 clC_9 rfl q_1012 cq_U_voice rfl (by decide) (by decide) (Nat.le_of_ble_eq_true rfl) d_S_turns_26 rfl (fun hr4 => ?_)
  refine vj_istore_n G (lv2 := [(3, .int (i32 r4)), (0, .ref (wa w 4)), (1, .int (i32 x1)), (2, .int (i32 x2))]) d_S_turns_29 rfl (by decide) rfl ?_
  refine vj_aload_n G (p9 := 1) d_S_turns_30 rfl rfl ?_
  refine gfC_S_42 G d_S_turns_31 ?_
  refine gfC_S_88 G d_S_turns_34 ?_
  refine vj_iload_n G (p9 := 2) d_S_turns_37 rfl rfl ?_
  obtain ⟨c5, hF⟩ := ck_some hF
  refine vj_iald G (x := x1) lkC_43 (by decide) c5 d_S_turns_38 ?_
  refine vj_mr (fun hM6 => ?_)
  refine vj_if_ge G (tgt := 46) d_S_turns_39 (by decide) (mr_a hM6 lkC_43) (fun c7 => ?_) (fun c7 => ?_)
  · rw [if_pos c7] at hF
    refine vj_iconst G (v := 1) d_S_turns_46 rfl ?_
    refine vj_aload_n G (p9 := 1) d_S_turns_47 rfl rfl ?_
    refine gfC_S_42 G d_S_turns_48 ?_
    refine vj_aload_n G (p9 := 1) d_S_turns_51 rfl rfl ?_
    refine gfC_S_42 G d_S_turns_52 ?_
    refine gfC_S_88 G d_S_turns_55 ?_
    refine vj_iload_n G (p9 := 2) d_S_turns_58 rfl rfl ?_
    obtain ⟨c8, hF⟩ := ck_some hF
    refine vj_iald G (x := x1) lkC_43 (by decide) c8 d_S_turns_59 ?_
    refine vj_mr (fun hM9 => ?_)
    obtain ⟨r10, M10, e10, hF⟩ := bnd_some hF
    refine vj_callV1 G (ct_U_voice (gx_ij G) n (M4 43 x1.toNat) (mr_a hM9 lkC_43) e10) lkC_3 clC_9 rfl q_1012 cq_U_voice rfl (by decide) (by decide) (Nat.le_of_ble_eq_true rfl) d_S_turns_60 rfl (fun hr10 => ?_)
    refine vj_ishl G d_S_turns_63 ?_
    refine vj_sub [1, 2, 0] rfl ?_
    exact wk_S_turns_64 G0 n  x1 r4 (ish 1 r10) hx1 hr4 (ir_sh _ _) _ hF
  · rw [if_neg c7] at hF
    refine vj_iconst G (v := 0) d_S_turns_42 rfl ?_
    refine vj_goto G (tgt := 64) d_S_turns_43 (by decide) ?_
    refine vj_sub [1, 2, 0] rfl ?_
    exact wk_S_turns_64 G0 n  x1 r4 0 hx1 hr4 ic_0 _ hF
set_option maxHeartbeats 4000000 in
set_option maxRecDepth 100000 in
theorem ct_W_pivot {w : Wd} (hij : ij LC w) (n : Nat) (x1 x2 : Int) (hx1 : inR x1) (hx2 : inR x2) {M : Mm} {r : Int} {M9 : Mm} (hF : f_W_pivot n x1 x2 M = some (r, M9)) : Ct LC w y_W_pivot b_W_pivot 3 (some .int) 22 551 1 [.ref (wa w 0), .int (i32 x1), .int (i32 x2)] M r M9 := by
  refine Ct.of hij KstC (by decide +kernel) (Nat.le_of_ble_eq_true rfl) (fun X G0 => ?_)
  have G := G0.1
  show VJ LC w X 3 1 r M9 M [(0, .ref (wa w 0)), (1, .int (i32 x1)), (2, .int (i32 x2))] [] 0
  unfold f_W_pivot at hF
  refine vj_aload_n G (p9 := 0) d_W_pivot_0 rfl rfl ?_
  refine gfC_W_18 G d_W_pivot_1 ?_
  refine vj_iload_n G (p9 := 1) d_W_pivot_4 rfl rfl ?_
  obtain ⟨r1, M1, e1, hF⟩ := bnd_some hF
  refine vj_callV3 G (ct_R_isFirm (gx_ij G) n x1 hx1 e1) lkC_1 clC_7 rfl q_592 cq_R_isFirm rfl (by decide) (by decide) (Nat.le_of_ble_eq_true rfl) d_W_pivot_5 rfl (fun hr1 => ?_)
  refine vj_if_eq G (tgt := 22) d_W_pivot_8 (by decide) (ir_b hr1) (fun c2 => ?_) (fun c2 => ?_)
  · rw [if_pos c2] at hF
    refine vj_iconst G (v := (-1)) d_W_pivot_22 rfl ?_
    cases hF
    exact vj_iret G0 ic_m1 d_W_pivot_23
  · rw [if_neg c2] at hF
    refine vj_aload_n G (p9 := 0) d_W_pivot_11 rfl rfl ?_
    refine gfC_W_18 G d_W_pivot_12 ?_
    refine vj_iload_n G (p9 := 2) d_W_pivot_15 rfl rfl ?_
    obtain ⟨r3, M3, e3, hF⟩ := bnd_some hF
    refine vj_callV3 G (ct_R_isHolder (gx_ij G) n x2 hx2 e3) lkC_1 clC_7 rfl q_596 cq_R_isHolder rfl (by decide) (by decide) (Nat.le_of_ble_eq_true rfl) d_W_pivot_16 rfl (fun hr3 => ?_)
    refine vj_if_ne G (tgt := 24) d_W_pivot_19 (by decide) (ir_b hr3) (fun c4 => ?_) (fun c4 => ?_)
    · rw [if_pos c4] at hF
      refine vj_aload_n G (p9 := 0) d_W_pivot_24 rfl rfl ?_
      refine gfC_W_43 G d_W_pivot_25 ?_
      refine vj_iload_n G (p9 := 1) d_W_pivot_28 rfl rfl ?_
      refine vj_iload_n G (p9 := 2) d_W_pivot_29 rfl rfl ?_
      obtain ⟨r5, M5, e5, hF⟩ := bnd_some hF
      refine vj_callV1 G (ct_S_turns (gx_ij G) n x1 x2 hx1 hx2 e5) lkC_4 clC_10 rfl q_1006 cq_S_turns rfl (by decide) (by decide) (Nat.le_of_ble_eq_true rfl) d_W_pivot_30 rfl (fun hr5 => ?_)
      cases hF
      exact vj_iret G0 hr5 d_W_pivot_33
    · rw [if_neg c4] at hF
      refine vj_iconst G (v := (-1)) d_W_pivot_22 rfl ?_
      cases hF
      exact vj_iret G0 ic_m1 d_W_pivot_23
set_option maxHeartbeats 4000000 in
set_option maxRecDepth 100000 in
theorem wk_S_pickForSale_72 {w : Wd} {X : Cx} {r : Int} {M9 : Mm} (G0 : Gx LC w X "WhoRules$Search" b_S_pickForSale 3 0 0 none) (n : Nat) (k7 : Int → Int → Mm → Rr) (hk7 : ∀ (x1 x2 : Int) (hx1 : inR x1) (hx2 : inR x2) (M : Mm), k7 x1 x2 M = some (r, M9) → VJ LC w X 3 0 r M9 M [(0, .ref (wa w 4)), (1, .int (i32 x1)), (2, .int (i32 x2))] [] 7) (x1 x2 : Int) (hx1 : inR x1) (hx2 : inR x2) (M : Mm) (hF : f_S_pickForSale_72 n k7 x1 x2 M = some (r, M9)) : VJ LC w X 3 0 r M9 M [(0, .ref (wa w 4)), (1, .int (i32 x1)), (2, .int (i32 x2))] [] 72 := by
  have G := G0.1
  unfold f_S_pickForSale_72 at hF
  refine vj_iinc G (p9 := 2) (n := 1) (lv2 := [(2, .int (i32 (w32 (x2 + 1)))), (0, .ref (wa w 4)), (1, .int (i32 x1))]) d_S_pickForSale_72 rfl (by decide) rfl ?_
  refine vj_goto G (tgt := 7) d_S_pickForSale_75 (by decide) ?_
  refine vj_sub [1, 2, 0] rfl ?_
  exact hk7 x1 (w32 (x2 + 1)) hx1 (ir_w _) _ hF
set_option maxHeartbeats 4000000 in
set_option maxRecDepth 100000 in
theorem wk_S_pickForSale_7 {w : Wd} {X : Cx} {r : Int} {M9 : Mm} (G0 : Gx LC w X "WhoRules$Search" b_S_pickForSale 3 0 0 none) (n : Nat) (k7 : Int → Int → Mm → Rr) (hk7 : ∀ (x1 x2 : Int) (hx1 : inR x1) (hx2 : inR x2) (M : Mm), k7 x1 x2 M = some (r, M9) → VJ LC w X 3 0 r M9 M [(0, .ref (wa w 4)), (1, .int (i32 x1)), (2, .int (i32 x2))] [] 7) (x1 x2 : Int) (hx1 : inR x1) (hx2 : inR x2) (M : Mm) (hF : f_S_pickForSale_7 n k7 x1 x2 M = some (r, M9)) : VJ LC w X 3 0 r M9 M [(0, .ref (wa w 4)), (1, .int (i32 x1)), (2, .int (i32 x2))] [] 7 := by
  have G := G0.1
  unfold f_S_pickForSale_7 at hF
  refine vj_iload_n G (p9 := 2) d_S_pickForSale_7 rfl rfl ?_
  refine vj_aload_n G (p9 := 0) d_S_pickForSale_8 rfl rfl ?_
  refine gfC_S_38 G d_S_pickForSale_9 ?_
  refine gfC_S_176 G d_S_pickForSale_12 ?_
  refine vj_mr (fun hM1 => ?_)
  refine vj_icmp_ge G (tgt := 78) d_S_pickForSale_15 (by decide) hx2 (mr_o hM1 lkC_1 flC_7_4) (fun c2 => ?_) (fun c2 => ?_)
  · rw [if_pos c2] at hF
    cases hF
    exact vj_vret G0 d_S_pickForSale_78
  · rw [if_neg c2] at hF
    refine vj_aload_n G (p9 := 0) d_S_pickForSale_18 rfl rfl ?_
    refine gfC_S_154 G d_S_pickForSale_19 ?_
    refine vj_mr (fun hM3 => ?_)
    refine vj_bipush G (v := 8) d_S_pickForSale_22 rfl ?_
    refine vj_icmp_ge G (tgt := 78) d_S_pickForSale_24 (by decide) (mr_o hM3 lkC_4 flC_10_3) ic_8 (fun c4 => ?_) (fun c4 => ?_)
    · rw [if_pos c4] at hF
      cases hF
      exact vj_vret G0 d_S_pickForSale_78
    · rw [if_neg c4] at hF
      refine vj_aload_n G (p9 := 0) d_S_pickForSale_27 rfl rfl ?_
      refine gfC_S_38 G d_S_pickForSale_28 ?_
      refine gfC_S_179 G d_S_pickForSale_31 ?_
      refine vj_iload_n G (p9 := 2) d_S_pickForSale_34 rfl rfl ?_
      obtain ⟨c5, hF⟩ := ck_some hF
      refine vj_iald G (x := x2) lkC_24 (by decide) c5 d_S_pickForSale_35 ?_
      refine vj_mr (fun hM6 => ?_)
      refine vj_if_le G (tgt := 72) d_S_pickForSale_36 (by decide) (mr_a hM6 lkC_24) (fun c7 => ?_) (fun c7 => ?_)
      · rw [if_pos c7] at hF
        exact wk_S_pickForSale_72 G0 n k7 hk7 x1 x2 hx1 hx2 _ hF
      · rw [if_neg c7] at hF
        refine vj_aload_n G (p9 := 0) d_S_pickForSale_39 rfl rfl ?_
        refine gfC_S_38 G d_S_pickForSale_40 ?_
        refine gfC_S_182 G d_S_pickForSale_43 ?_
        refine vj_iload_n G (p9 := 2) d_S_pickForSale_46 rfl rfl ?_
        obtain ⟨c8, hF⟩ := ck_some hF
        refine vj_iald G (x := x2) lkC_25 (by decide) c8 d_S_pickForSale_47 ?_
        refine vj_mr (fun hM9 => ?_)
        refine vj_iload_n G (p9 := 1) d_S_pickForSale_48 rfl rfl ?_
        refine vj_icmp_eq G (tgt := 72) d_S_pickForSale_49 (by decide) (mr_a hM9 lkC_25) hx1 (fun c10 => ?_) (fun c10 => ?_)
        · rw [if_pos c10] at hF
          exact wk_S_pickForSale_72 G0 n k7 hk7 x1 x2 hx1 hx2 _ hF
        · rw [if_neg c10] at hF
          refine vj_aload_n G (p9 := 0) d_S_pickForSale_52 rfl rfl ?_
          refine gfC_S_11 G d_S_pickForSale_53 ?_
          refine vj_aload_n G (p9 := 0) d_S_pickForSale_56 rfl rfl ?_
          refine gfC_S_154 G d_S_pickForSale_57 ?_
          refine vj_mr (fun hM11 => ?_)
          refine vj_iload_n G (p9 := 2) d_S_pickForSale_60 rfl rfl ?_
          obtain ⟨c12, hF⟩ := ck_some hF
          refine vj_iast G (x := (M 4 3)) lkC_48 (by decide) (by decide) (by decide) c12 hx2 d_S_pickForSale_61 ?_
          refine vj_aload_n G (p9 := 0) d_S_pickForSale_62 rfl rfl ?_
          refine vj_dup G d_S_pickForSale_63 rfl ?_
          refine gfC_S_154 G d_S_pickForSale_64 ?_
          refine vj_mr (fun hM13 => ?_)
          refine vj_iconst G (v := 1) d_S_pickForSale_67 rfl ?_
          refine vj_iadd G d_S_pickForSale_68 ?_
          refine pfC_S_154 G (ir_w _) d_S_pickForSale_69 ?_
          exact wk_S_pickForSale_72 G0 n k7 hk7 x1 x2 hx1 hx2 _ hF
set_option maxHeartbeats 4000000 in
set_option maxRecDepth 100000 in
theorem wl_S_pickForSale_7 {w : Wd} {X : Cx} {r : Int} {M9 : Mm} (G0 : Gx LC w X "WhoRules$Search" b_S_pickForSale 3 0 0 none) (n : Nat) : ∀ (f : Nat) (x1 x2 : Int) (hx1 : inR x1) (hx2 : inR x2) (M : Mm), lp_S_pickForSale_7 n f x1 x2 M = some (r, M9) → VJ LC w X 3 0 r M9 M [(0, .ref (wa w 4)), (1, .int (i32 x1)), (2, .int (i32 x2))] [] 7 := by
  intro f
  induction f with
  | zero => intro x1 x2 hx1 hx2 M hF; cases hF
  | succ f ih => intro x1 x2 hx1 hx2 M hF; exact wk_S_pickForSale_7 G0 n (lp_S_pickForSale_7 n f) ih x1 x2 hx1 hx2 M hF
set_option maxHeartbeats 4000000 in
set_option maxRecDepth 100000 in
theorem ct_S_pickForSale {w : Wd} (hij : ij LC w) (n : Nat) (x1 : Int) (hx1 : inR x1) {M : Mm} {r : Int} {M9 : Mm} (hF : f_S_pickForSale n x1 M = some (r, M9)) : Ct LC w y_S_pickForSale b_S_pickForSale 3 none 0 0 0 [.ref (wa w 4), .int (i32 x1)] M r M9 := by
  refine Ct.of hij KstC (by decide +kernel) (Nat.le_of_ble_eq_true rfl) (fun X G0 => ?_)
  have G := G0.1
  show VJ LC w X 3 0 r M9 M [(0, .ref (wa w 4)), (1, .int (i32 x1))] [] 0
  unfold f_S_pickForSale at hF
  refine vj_aload_n G (p9 := 0) d_S_pickForSale_0 rfl rfl ?_
  refine vj_iconst G (v := 0) d_S_pickForSale_1 rfl ?_
  refine pfC_S_154 G ic_0 d_S_pickForSale_2 ?_
  refine vj_iconst G (v := 0) d_S_pickForSale_5 rfl ?_
  refine vj_istore_n G (lv2 := [(2, .int (i32 0)), (0, .ref (wa w 4)), (1, .int (i32 x1))]) d_S_pickForSale_6 rfl (by decide) rfl ?_
  refine vj_sub [1, 2, 0] rfl ?_
  exact wl_S_pickForSale_7 G0 n  n x1 0 hx1 ic_0 _ hF
set_option maxHeartbeats 4000000 in
set_option maxRecDepth 100000 in
theorem wk_S_sharesOf_38 {w : Wd} {X : Cx} {r : Int} {M9 : Mm} (G0 : Gx LC w X "WhoRules$Search" b_S_sharesOf 5 0 0 (some .long)) (n : Nat) (k5 : Int → Int → Int → Mm → Rr) (hk5 : ∀ (x1 x2 x4 : Int) (hx1 : inR x1) (hx2 : in64 x2) (hx4 : inR x4) (M : Mm), k5 x1 x2 x4 M = some (r, M9) → VJ LC w X 5 2 r M9 M [(0, .ref (wa w 4)), (1, .int (i32 x1)), (2, .long (i64 x2)), (4, .int (i32 x4))] [] 5) (x1 x4 s0 s1 : Int) (hx1 : inR x1) (hx4 : inR x4) (hs0 : in64 s0) (hs1 : in64 s1) (M : Mm) (hF : f_S_sharesOf_38 n k5 x1 x4 s0 s1 M = some (r, M9)) : VJ LC w X 5 2 r M9 M [(0, .ref (wa w 4)), (1, .int (i32 x1)), (4, .int (i32 x4))] [.long (i64 s1), .long (i64 s0)] 38 := by
  have G := G0.1
  unfold f_S_sharesOf_38 at hF
  refine vj_lor G d_S_sharesOf_38 ?_
  refine vj_lstore_n G (lv2 := [(2, .long (i64 (lor s0 s1))), (0, .ref (wa w 4)), (1, .int (i32 x1)), (4, .int (i32 x4))]) d_S_sharesOf_39 rfl (by decide) rfl ?_
  refine vj_iinc G (p9 := 3) (n := 1) (lv2 := [(4, .int (i32 (w32 (x4 + 1)))), (2, .long (i64 (lor s0 s1))), (0, .ref (wa w 4)), (1, .int (i32 x1))]) d_S_sharesOf_40 rfl (by decide) rfl ?_
  refine vj_goto G (tgt := 5) d_S_sharesOf_43 (by decide) ?_
  refine vj_sub [2, 3, 1, 0] rfl ?_
  exact hk5 x1 (lor s0 s1) (w32 (x4 + 1)) hx1 (lr_or _ _) (ir_w _) _ hF
set_option maxHeartbeats 4000000 in
set_option maxRecDepth 100000 in
theorem wk_S_sharesOf_5 {w : Wd} {X : Cx} {r : Int} {M9 : Mm} (G0 : Gx LC w X "WhoRules$Search" b_S_sharesOf 5 0 0 (some .long)) (n : Nat) (k5 : Int → Int → Int → Mm → Rr) (hk5 : ∀ (x1 x2 x4 : Int) (hx1 : inR x1) (hx2 : in64 x2) (hx4 : inR x4) (M : Mm), k5 x1 x2 x4 M = some (r, M9) → VJ LC w X 5 2 r M9 M [(0, .ref (wa w 4)), (1, .int (i32 x1)), (2, .long (i64 x2)), (4, .int (i32 x4))] [] 5) (x1 x2 x4 : Int) (hx1 : inR x1) (hx2 : in64 x2) (hx4 : inR x4) (M : Mm) (hF : f_S_sharesOf_5 n k5 x1 x2 x4 M = some (r, M9)) : VJ LC w X 5 2 r M9 M [(0, .ref (wa w 4)), (1, .int (i32 x1)), (2, .long (i64 x2)), (4, .int (i32 x4))] [] 5 := by
  have G := G0.1
  unfold f_S_sharesOf_5 at hF
  refine vj_iload G (p9 := 3) d_S_sharesOf_5 rfl ?_
  refine vj_aload_n G (p9 := 0) d_S_sharesOf_7 rfl rfl ?_
  refine gfC_S_154 G d_S_sharesOf_8 ?_
  refine vj_mr (fun hM1 => ?_)
  refine vj_icmp_ge G (tgt := 46) d_S_sharesOf_11 (by decide) hx4 (mr_o hM1 lkC_4 flC_10_3) (fun c2 => ?_) (fun c2 => ?_)
  · rw [if_pos c2] at hF
    refine vj_lload_n G (p9 := 2) d_S_sharesOf_46 rfl rfl ?_
    cases hF
    exact vj_lret G0 hx2 d_S_sharesOf_47
  · rw [if_neg c2] at hF
    refine vj_lload_n G (p9 := 2) d_S_sharesOf_14 rfl rfl ?_
    refine vj_iload_n G (p9 := 1) d_S_sharesOf_15 rfl rfl ?_
    refine vj_iload G (p9 := 3) d_S_sharesOf_16 rfl ?_
    refine vj_ishr G d_S_sharesOf_18 ?_
    refine vj_iconst G (v := 1) d_S_sharesOf_19 rfl ?_
    refine vj_iand G d_S_sharesOf_20 ?_
    refine vj_iconst G (v := 1) d_S_sharesOf_21 rfl ?_
    refine vj_icmp_ne G (tgt := 37) d_S_sharesOf_22 (by decide) (ir_an _ _) ic_1 (fun c3 => ?_) (fun c3 => ?_)
    · rw [if_pos c3] at hF
      refine vj_lconst G (v := 0) d_S_sharesOf_37 rfl ?_
      refine vj_sub [0, 1, 3] rfl ?_
      exact wk_S_sharesOf_38 G0 n k5 hk5 x1 x4 x2 0 hx1 hx4 hx2 (lr_i ic_0) _ hF
    · rw [if_neg c3] at hF
      refine vj_lconst G (v := 1) d_S_sharesOf_25 rfl ?_
      refine vj_aload_n G (p9 := 0) d_S_sharesOf_26 rfl rfl ?_
      refine gfC_S_11 G d_S_sharesOf_27 ?_
      refine vj_iload G (p9 := 3) d_S_sharesOf_30 rfl ?_
      obtain ⟨c4, hF⟩ := ck_some hF
      refine vj_iald G (x := x4) lkC_48 (by decide) c4 d_S_sharesOf_32 ?_
      refine vj_mr (fun hM5 => ?_)
      refine vj_lshl G d_S_sharesOf_33 ?_
      refine vj_goto G (tgt := 38) d_S_sharesOf_34 (by decide) ?_
      refine vj_sub [0, 1, 3] rfl ?_
      exact wk_S_sharesOf_38 G0 n k5 hk5 x1 x4 x2 (lsh 1 (M 48 x4.toNat)) hx1 hx4 hx2 (lr_sh _ _) _ hF
set_option maxHeartbeats 4000000 in
set_option maxRecDepth 100000 in
theorem wl_S_sharesOf_5 {w : Wd} {X : Cx} {r : Int} {M9 : Mm} (G0 : Gx LC w X "WhoRules$Search" b_S_sharesOf 5 0 0 (some .long)) (n : Nat) : ∀ (f : Nat) (x1 x2 x4 : Int) (hx1 : inR x1) (hx2 : in64 x2) (hx4 : inR x4) (M : Mm), lp_S_sharesOf_5 n f x1 x2 x4 M = some (r, M9) → VJ LC w X 5 2 r M9 M [(0, .ref (wa w 4)), (1, .int (i32 x1)), (2, .long (i64 x2)), (4, .int (i32 x4))] [] 5 := by
  intro f
  induction f with
  | zero => intro x1 x2 x4 hx1 hx2 hx4 M hF; cases hF
  | succ f ih => intro x1 x2 x4 hx1 hx2 hx4 M hF; exact wk_S_sharesOf_5 G0 n (lp_S_sharesOf_5 n f) ih x1 x2 x4 hx1 hx2 hx4 M hF
set_option maxHeartbeats 4000000 in
set_option maxRecDepth 100000 in
theorem ct_S_sharesOf {w : Wd} (hij : ij LC w) (n : Nat) (x1 : Int) (hx1 : inR x1) {M : Mm} {r : Int} {M9 : Mm} (hF : f_S_sharesOf n x1 M = some (r, M9)) : Ct LC w y_S_sharesOf b_S_sharesOf 5 (some .long) 0 0 2 [.ref (wa w 4), .int (i32 x1)] M r M9 := by
  refine Ct.of hij KstC (by decide +kernel) (Nat.le_of_ble_eq_true rfl) (fun X G0 => ?_)
  have G := G0.1
  show VJ LC w X 5 2 r M9 M [(0, .ref (wa w 4)), (1, .int (i32 x1))] [] 0
  unfold f_S_sharesOf at hF
  refine vj_lconst G (v := 0) d_S_sharesOf_0 rfl ?_
  refine vj_lstore_n G (lv2 := [(2, .long (i64 0)), (0, .ref (wa w 4)), (1, .int (i32 x1))]) d_S_sharesOf_1 rfl (by decide) rfl ?_
  refine vj_iconst G (v := 0) d_S_sharesOf_2 rfl ?_
  refine vj_istore G (lv2 := [(4, .int (i32 0)), (2, .long (i64 0)), (0, .ref (wa w 4)), (1, .int (i32 x1))]) d_S_sharesOf_3 (by decide) rfl ?_
  refine vj_sub [2, 3, 1, 0] rfl ?_
  exact wl_S_sharesOf_5 G0 n  n x1 0 0 hx1 (lr_i ic_0) ic_0 _ hF
set_option maxHeartbeats 4000000 in
set_option maxRecDepth 100000 in
theorem wk_R_priceOf_37 {w : Wd} {X : Cx} {r : Int} {M9 : Mm} (G0 : Gx LC w X "WhoRules$Register" b_R_priceOf 5 0 0 (some .int)) (n : Nat) (k5 : Int → Int → Int → Mm → Rr) (hk5 : ∀ (x1 x3 x4 : Int) (hx1 : in64 x1) (hx3 : inR x3) (hx4 : inR x4) (M : Mm), k5 x1 x3 x4 M = some (r, M9) → VJ LC w X 5 1 r M9 M [(0, .ref (wa w 1)), (1, .long (i64 x1)), (3, .int (i32 x3)), (4, .int (i32 x4))] [] 5) (x1 x4 s0 s1 : Int) (hx1 : in64 x1) (hx4 : inR x4) (hs0 : inR s0) (hs1 : inR s1) (M : Mm) (hF : f_R_priceOf_37 n k5 x1 x4 s0 s1 M = some (r, M9)) : VJ LC w X 5 1 r M9 M [(0, .ref (wa w 1)), (1, .long (i64 x1)), (4, .int (i32 x4))] [.int (i32 s1), .int (i32 s0)] 37 := by
  have G := G0.1
  unfold f_R_priceOf_37 at hF
  refine vj_iadd G d_R_priceOf_37 ?_
  refine vj_istore_n G (lv2 := [(3, .int (i32 (w32 (s0 + s1)))), (0, .ref (wa w 1)), (1, .long (i64 x1)), (4, .int (i32 x4))]) d_R_priceOf_38 rfl (by decide) rfl ?_
  refine vj_iinc G (p9 := 3) (n := 1) (lv2 := [(4, .int (i32 (w32 (x4 + 1)))), (3, .int (i32 (w32 (s0 + s1)))), (0, .ref (wa w 1)), (1, .long (i64 x1))]) d_R_priceOf_39 rfl (by decide) rfl ?_
  refine vj_goto G (tgt := 5) d_R_priceOf_42 (by decide) ?_
  refine vj_sub [2, 3, 1, 0] rfl ?_
  exact hk5 x1 (w32 (s0 + s1)) (w32 (x4 + 1)) hx1 (ir_w _) (ir_w _) _ hF
set_option maxHeartbeats 4000000 in
set_option maxRecDepth 100000 in
theorem wk_R_priceOf_5 {w : Wd} {X : Cx} {r : Int} {M9 : Mm} (G0 : Gx LC w X "WhoRules$Register" b_R_priceOf 5 0 0 (some .int)) (n : Nat) (k5 : Int → Int → Int → Mm → Rr) (hk5 : ∀ (x1 x3 x4 : Int) (hx1 : in64 x1) (hx3 : inR x3) (hx4 : inR x4) (M : Mm), k5 x1 x3 x4 M = some (r, M9) → VJ LC w X 5 1 r M9 M [(0, .ref (wa w 1)), (1, .long (i64 x1)), (3, .int (i32 x3)), (4, .int (i32 x4))] [] 5) (x1 x3 x4 : Int) (hx1 : in64 x1) (hx3 : inR x3) (hx4 : inR x4) (M : Mm) (hF : f_R_priceOf_5 n k5 x1 x3 x4 M = some (r, M9)) : VJ LC w X 5 1 r M9 M [(0, .ref (wa w 1)), (1, .long (i64 x1)), (3, .int (i32 x3)), (4, .int (i32 x4))] [] 5 := by
  have G := G0.1
  unfold f_R_priceOf_5 at hF
  refine vj_iload G (p9 := 3) d_R_priceOf_5 rfl ?_
  refine vj_aload_n G (p9 := 0) d_R_priceOf_7 rfl rfl ?_
  refine gfC_R_68 G d_R_priceOf_8 ?_
  refine vj_mr (fun hM1 => ?_)
  refine vj_icmp_ge G (tgt := 45) d_R_priceOf_11 (by decide) hx4 (mr_o hM1 lkC_1 flC_7_4) (fun c2 => ?_) (fun c2 => ?_)
  · rw [if_pos c2] at hF
    refine vj_iload_n G (p9 := 2) d_R_priceOf_45 rfl rfl ?_
    cases hF
    exact vj_iret G0 hx3 d_R_priceOf_46
  · rw [if_neg c2] at hF
    refine vj_iload_n G (p9 := 2) d_R_priceOf_14 rfl rfl ?_
    refine vj_lload_n G (p9 := 1) d_R_priceOf_15 rfl rfl ?_
    refine vj_iload G (p9 := 3) d_R_priceOf_16 rfl ?_
    refine vj_lshr G d_R_priceOf_18 ?_
    refine vj_lconst G (v := 1) d_R_priceOf_19 rfl ?_
    refine vj_land G d_R_priceOf_20 ?_
    refine vj_lconst G (v := 1) d_R_priceOf_21 rfl ?_
    refine vj_lcmp_ne G (tgt := 36) d_R_priceOf_22 d_R_priceOf_23 (by decide) (lr_an _ _) (lr_i ic_1) (fun c3 => ?_) (fun c3 => ?_)
    · rw [if_pos c3] at hF
      refine vj_iconst G (v := 0) d_R_priceOf_36 rfl ?_
      refine vj_sub [0, 1, 3] rfl ?_
      exact wk_R_priceOf_37 G0 n k5 hk5 x1 x4 x3 0 hx1 hx4 hx3 ic_0 _ hF
    · rw [if_neg c3] at hF
      refine vj_aload_n G (p9 := 0) d_R_priceOf_26 rfl rfl ?_
      refine gfC_R_39 G d_R_priceOf_27 ?_
      refine vj_iload G (p9 := 3) d_R_priceOf_30 rfl ?_
      obtain ⟨c4, hF⟩ := ck_some hF
      refine vj_iald G (x := x4) lkC_24 (by decide) c4 d_R_priceOf_32 ?_
      refine vj_mr (fun hM5 => ?_)
      refine vj_goto G (tgt := 37) d_R_priceOf_33 (by decide) ?_
      refine vj_sub [0, 1, 3] rfl ?_
      exact wk_R_priceOf_37 G0 n k5 hk5 x1 x4 x3 (M 24 x4.toNat) hx1 hx4 hx3 (mr_a hM5 lkC_24) _ hF
set_option maxHeartbeats 4000000 in
set_option maxRecDepth 100000 in
theorem wl_R_priceOf_5 {w : Wd} {X : Cx} {r : Int} {M9 : Mm} (G0 : Gx LC w X "WhoRules$Register" b_R_priceOf 5 0 0 (some .int)) (n : Nat) : ∀ (f : Nat) (x1 x3 x4 : Int) (hx1 : in64 x1) (hx3 : inR x3) (hx4 : inR x4) (M : Mm), lp_R_priceOf_5 n f x1 x3 x4 M = some (r, M9) → VJ LC w X 5 1 r M9 M [(0, .ref (wa w 1)), (1, .long (i64 x1)), (3, .int (i32 x3)), (4, .int (i32 x4))] [] 5 := by
  intro f
  induction f with
  | zero => intro x1 x3 x4 hx1 hx3 hx4 M hF; cases hF
  | succ f ih => intro x1 x3 x4 hx1 hx3 hx4 M hF; exact wk_R_priceOf_5 G0 n (lp_R_priceOf_5 n f) ih x1 x3 x4 hx1 hx3 hx4 M hF
set_option maxHeartbeats 4000000 in
set_option maxRecDepth 100000 in
theorem ct_R_priceOf {w : Wd} (hij : ij LC w) (n : Nat) (x1 : Int) (hx1 : in64 x1) {M : Mm} {r : Int} {M9 : Mm} (hF : f_R_priceOf n x1 M = some (r, M9)) : Ct LC w y_R_priceOf b_R_priceOf 5 (some .int) 0 0 1 [.ref (wa w 1), .long (i64 x1)] M r M9 := by
  refine Ct.of hij KstC (by decide +kernel) (Nat.le_of_ble_eq_true rfl) (fun X G0 => ?_)
  have G := G0.1
  show VJ LC w X 5 1 r M9 M [(0, .ref (wa w 1)), (1, .long (i64 x1))] [] 0
  unfold f_R_priceOf at hF
  refine vj_iconst G (v := 0) d_R_priceOf_0 rfl ?_
  refine vj_istore_n G (lv2 := [(3, .int (i32 0)), (0, .ref (wa w 1)), (1, .long (i64 x1))]) d_R_priceOf_1 rfl (by decide) rfl ?_
  refine vj_iconst G (v := 0) d_R_priceOf_2 rfl ?_
  refine vj_istore G (lv2 := [(4, .int (i32 0)), (3, .int (i32 0)), (0, .ref (wa w 1)), (1, .long (i64 x1))]) d_R_priceOf_3 (by decide) rfl ?_
  refine vj_sub [2, 3, 1, 0] rfl ?_
  exact wl_R_priceOf_5 G0 n  n x1 0 0 hx1 ic_0 ic_0 _ hF
set_option maxHeartbeats 4000000 in
set_option maxRecDepth 100000 in
theorem ct_U_suppose {w : Wd} (hij : ij LC w) (n : Nat) (x1 x2 : Int) (hx1 : inR x1) (hx2 : inR x2) {M : Mm} {r : Int} {M9 : Mm} (hF : f_U_suppose n x1 x2 M = some (r, M9)) : Ct LC w y_U_suppose b_U_suppose 3 none 3 80 0 [.ref (wa w 3), .int (i32 x1), .int (i32 x2)] M r M9 := by
  refine Ct.of hij KstC (by decide +kernel) (Nat.le_of_ble_eq_true rfl) (fun X G0 => ?_)
  have G := G0.1
  show VJ LC w X 3 0 r M9 M [(0, .ref (wa w 3)), (1, .int (i32 x1)), (2, .int (i32 x2))] [] 0
  unfold f_U_suppose at hF
  refine vj_aload_n G (p9 := 0) d_U_suppose_0 rfl rfl ?_
  refine gfC_U_16 G d_U_suppose_1 ?_
  refine vj_iload_n G (p9 := 1) d_U_suppose_4 rfl rfl ?_
  refine vj_iload_n G (p9 := 2) d_U_suppose_5 rfl rfl ?_
  obtain ⟨c1, hF⟩ := ck_some hF
  refine vj_iast G (x := x1) lkC_39 (by decide) (by decide) (by decide) c1 hx2 d_U_suppose_6 ?_
  refine vj_aload_n G (p9 := 0) d_U_suppose_7 rfl rfl ?_
  refine gfC_U_20 G d_U_suppose_8 ?_
  refine vj_iload_n G (p9 := 1) d_U_suppose_11 rfl rfl ?_
  refine vj_aload_n G (p9 := 0) d_U_suppose_12 rfl rfl ?_
  refine vj_iload_n G (p9 := 1) d_U_suppose_13 rfl rfl ?_
  refine vj_iload_n G (p9 := 2) d_U_suppose_14 rfl rfl ?_
  refine vj_aload_n G (p9 := 0) d_U_suppose_15 rfl rfl ?_
  refine gfC_U_54 G d_U_suppose_16 ?_
  refine vj_mr (fun hM2 => ?_)
  obtain ⟨r3, M3, e3, hF⟩ := bnd_some hF
  refine vj_callV1 G (ct_U_weigh (gx_ij G) n x1 x2 ((mset M 39 x1.toNat x2) 3 2) hx1 hx2 (mr_o hM2 lkC_3 flC_9_2) e3) lkC_3 clC_9 rfl q_797 cq_U_weigh rfl (by decide) (by decide) (Nat.le_of_ble_eq_true rfl) d_U_suppose_19 rfl (fun hr3 => ?_)
  obtain ⟨c4, hF⟩ := ck_some hF
  refine vj_iast G (x := x1) lkC_40 (by decide) (by decide) (by decide) c4 hr3 d_U_suppose_22 ?_
  cases hF
  exact vj_vret G0 d_U_suppose_23
set_option maxHeartbeats 4000000 in
set_option maxRecDepth 100000 in
theorem wk_S_ruledAfter_54 {w : Wd} {X : Cx} {r : Int} {M9 : Mm} (G0 : Gx LC w X "WhoRules$Search" b_S_ruledAfter 5 4 102 (some .int)) (n : Nat) (k3 : Int → Int → Int → Int → Mm → Rr) (hk3 : ∀ (x1 x2 x3 x4 : Int) (hx1 : inR x1) (hx2 : inR x2) (hx3 : inR x3) (hx4 : inR x4) (M : Mm), k3 x1 x2 x3 x4 M = some (r, M9) → VJ LC w X 5 1 r M9 M [(0, .ref (wa w 4)), (1, .int (i32 x1)), (2, .int (i32 x2)), (3, .int (i32 x3)), (4, .int (i32 x4))] [] 3) (x1 x2 x3 x4 : Int) (hx1 : inR x1) (hx2 : inR x2) (hx3 : inR x3) (hx4 : inR x4) (M : Mm) (hF : f_S_ruledAfter_54 n k3 x1 x2 x3 x4 M = some (r, M9)) : VJ LC w X 5 1 r M9 M [(0, .ref (wa w 4)), (1, .int (i32 x1)), (2, .int (i32 x2)), (3, .int (i32 x3)), (4, .int (i32 x4))] [] 54 := by
  have G := G0.1
  unfold f_S_ruledAfter_54 at hF
  refine vj_iinc G (p9 := 4) (n := 1) (lv2 := [(4, .int (i32 (w32 (x4 + 1)))), (0, .ref (wa w 4)), (1, .int (i32 x1)), (2, .int (i32 x2)), (3, .int (i32 x3))]) d_S_ruledAfter_54 rfl (by decide) rfl ?_
  refine vj_goto G (tgt := 3) d_S_ruledAfter_57 (by decide) ?_
  refine vj_sub [1, 2, 3, 4, 0] rfl ?_
  exact hk3 x1 x2 x3 (w32 (x4 + 1)) hx1 hx2 hx3 (ir_w _) _ hF
set_option maxHeartbeats 4000000 in
set_option maxRecDepth 100000 in
theorem wk_S_ruledAfter_3 {w : Wd} {X : Cx} {r : Int} {M9 : Mm} (G0 : Gx LC w X "WhoRules$Search" b_S_ruledAfter 5 4 102 (some .int)) (n : Nat) (k3 : Int → Int → Int → Int → Mm → Rr) (hk3 : ∀ (x1 x2 x3 x4 : Int) (hx1 : inR x1) (hx2 : inR x2) (hx3 : inR x3) (hx4 : inR x4) (M : Mm), k3 x1 x2 x3 x4 M = some (r, M9) → VJ LC w X 5 1 r M9 M [(0, .ref (wa w 4)), (1, .int (i32 x1)), (2, .int (i32 x2)), (3, .int (i32 x3)), (4, .int (i32 x4))] [] 3) (x1 x2 x3 x4 : Int) (hx1 : inR x1) (hx2 : inR x2) (hx3 : inR x3) (hx4 : inR x4) (M : Mm) (hF : f_S_ruledAfter_3 n k3 x1 x2 x3 x4 M = some (r, M9)) : VJ LC w X 5 1 r M9 M [(0, .ref (wa w 4)), (1, .int (i32 x1)), (2, .int (i32 x2)), (3, .int (i32 x3)), (4, .int (i32 x4))] [] 3 := by
  have G := G0.1
  unfold f_S_ruledAfter_3 at hF
  refine vj_iload G (p9 := 4) d_S_ruledAfter_3 rfl ?_
  refine vj_aload_n G (p9 := 0) d_S_ruledAfter_5 rfl rfl ?_
  refine gfC_S_154 G d_S_ruledAfter_6 ?_
  refine vj_mr (fun hM1 => ?_)
  refine vj_icmp_ge G (tgt := 60) d_S_ruledAfter_9 (by decide) hx4 (mr_o hM1 lkC_4 flC_10_3) (fun c2 => ?_) (fun c2 => ?_)
  · rw [if_pos c2] at hF
    refine vj_aload_n G (p9 := 0) d_S_ruledAfter_60 rfl rfl ?_
    refine gfC_S_42 G d_S_ruledAfter_61 ?_
    obtain ⟨r3, M3, e3, hF⟩ := bnd_some hF
    refine vj_callV0 G (ct_U_least (gx_ij G) n   e3) lkC_3 clC_9 rfl q_1011 cq_U_least rfl (by decide) (by decide) (Nat.le_of_ble_eq_true rfl) d_S_ruledAfter_64 rfl (fun hr3 => ?_)
    refine vj_aload_n G (p9 := 0) d_S_ruledAfter_67 rfl rfl ?_
    refine gfC_S_42 G d_S_ruledAfter_68 ?_
    refine gfC_S_91 G d_S_ruledAfter_71 ?_
    refine vj_iload_n G (p9 := 3) d_S_ruledAfter_74 rfl rfl ?_
    obtain ⟨c4, hF⟩ := ck_some hF
    refine vj_iald G (x := x3) lkC_45 (by decide) c4 d_S_ruledAfter_75 ?_
    refine vj_mr (fun hM5 => ?_)
    cases hF
    exact vj_iret G0 (mr_a hM5 lkC_45) d_S_ruledAfter_76
  · rw [if_neg c2] at hF
    refine vj_iload_n G (p9 := 1) d_S_ruledAfter_12 rfl rfl ?_
    refine vj_iload G (p9 := 4) d_S_ruledAfter_13 rfl ?_
    refine vj_ishr G d_S_ruledAfter_15 ?_
    refine vj_iconst G (v := 1) d_S_ruledAfter_16 rfl ?_
    refine vj_iand G d_S_ruledAfter_17 ?_
    refine vj_iconst G (v := 1) d_S_ruledAfter_18 rfl ?_
    refine vj_icmp_ne G (tgt := 40) d_S_ruledAfter_19 (by decide) (ir_an _ _) ic_1 (fun c6 => ?_) (fun c6 => ?_)
    · rw [if_pos c6] at hF
      refine vj_aload_n G (p9 := 0) d_S_ruledAfter_40 rfl rfl ?_
      refine gfC_S_42 G d_S_ruledAfter_41 ?_
      refine vj_aload_n G (p9 := 0) d_S_ruledAfter_44 rfl rfl ?_
      refine gfC_S_11 G d_S_ruledAfter_45 ?_
      refine vj_iload G (p9 := 4) d_S_ruledAfter_48 rfl ?_
      obtain ⟨c7, hF⟩ := ck_some hF
      refine vj_iald G (x := x4) lkC_48 (by decide) c7 d_S_ruledAfter_50 ?_
      refine vj_mr (fun hM8 => ?_)
      obtain ⟨r9, M9, e9, hF⟩ := bnd_some hF
      refine vj_callV0 G (ct_U_restore (gx_ij G) n (M 48 x4.toNat) (mr_a hM8 lkC_48) e9) lkC_3 clC_9 rfl q_1063 cq_U_restore rfl (by decide) (by decide) (Nat.le_of_ble_eq_true rfl) d_S_ruledAfter_51 rfl (fun hr9 => ?_)
      exact wk_S_ruledAfter_54 G0 n k3 hk3 x1 x2 x3 x4 hx1 hx2 hx3 hx4 _ hF
    · rw [if_neg c6] at hF
      refine vj_aload_n G (p9 := 0) d_S_ruledAfter_22 rfl rfl ?_
      refine gfC_S_42 G d_S_ruledAfter_23 ?_
      refine vj_aload_n G (p9 := 0) d_S_ruledAfter_26 rfl rfl ?_
      refine gfC_S_11 G d_S_ruledAfter_27 ?_
      refine vj_iload G (p9 := 4) d_S_ruledAfter_30 rfl ?_
      obtain ⟨c10, hF⟩ := ck_some hF
      refine vj_iald G (x := x4) lkC_48 (by decide) c10 d_S_ruledAfter_32 ?_
      refine vj_mr (fun hM11 => ?_)
      refine vj_iload_n G (p9 := 2) d_S_ruledAfter_33 rfl rfl ?_
      obtain ⟨r12, M12, e12, hF⟩ := bnd_some hF
      refine vj_callV0 G (ct_U_suppose (gx_ij G) n (M 48 x4.toNat) x2 (mr_a hM11 lkC_48) hx2 e12) lkC_3 clC_9 rfl q_1059 cq_U_suppose rfl (by decide) (by decide) (Nat.le_of_ble_eq_true rfl) d_S_ruledAfter_34 rfl (fun hr12 => ?_)
      refine vj_goto G (tgt := 54) d_S_ruledAfter_37 (by decide) ?_
      exact wk_S_ruledAfter_54 G0 n k3 hk3 x1 x2 x3 x4 hx1 hx2 hx3 hx4 _ hF
set_option maxHeartbeats 4000000 in
set_option maxRecDepth 100000 in
theorem wl_S_ruledAfter_3 {w : Wd} {X : Cx} {r : Int} {M9 : Mm} (G0 : Gx LC w X "WhoRules$Search" b_S_ruledAfter 5 4 102 (some .int)) (n : Nat) : ∀ (f : Nat) (x1 x2 x3 x4 : Int) (hx1 : inR x1) (hx2 : inR x2) (hx3 : inR x3) (hx4 : inR x4) (M : Mm), lp_S_ruledAfter_3 n f x1 x2 x3 x4 M = some (r, M9) → VJ LC w X 5 1 r M9 M [(0, .ref (wa w 4)), (1, .int (i32 x1)), (2, .int (i32 x2)), (3, .int (i32 x3)), (4, .int (i32 x4))] [] 3 := by
  intro f
  induction f with
  | zero => intro x1 x2 x3 x4 hx1 hx2 hx3 hx4 M hF; cases hF
  | succ f ih => intro x1 x2 x3 x4 hx1 hx2 hx3 hx4 M hF; exact wk_S_ruledAfter_3 G0 n (lp_S_ruledAfter_3 n f) ih x1 x2 x3 x4 hx1 hx2 hx3 hx4 M hF
set_option maxHeartbeats 4000000 in
set_option maxRecDepth 100000 in
theorem ct_S_ruledAfter {w : Wd} (hij : ij LC w) (n : Nat) (x1 x2 x3 : Int) (hx1 : inR x1) (hx2 : inR x2) (hx3 : inR x3) {M : Mm} {r : Int} {M9 : Mm} (hF : f_S_ruledAfter n x1 x2 x3 M = some (r, M9)) : Ct LC w y_S_ruledAfter b_S_ruledAfter 5 (some .int) 4 102 1 [.ref (wa w 4), .int (i32 x1), .int (i32 x2), .int (i32 x3)] M r M9 := by
  refine Ct.of hij KstC (by decide +kernel) (Nat.le_of_ble_eq_true rfl) (fun X G0 => ?_)
  have G := G0.1
  show VJ LC w X 5 1 r M9 M [(0, .ref (wa w 4)), (1, .int (i32 x1)), (2, .int (i32 x2)), (3, .int (i32 x3))] [] 0
  unfold f_S_ruledAfter at hF
  refine vj_iconst G (v := 0) d_S_ruledAfter_0 rfl ?_
  refine vj_istore G (lv2 := [(4, .int (i32 0)), (0, .ref (wa w 4)), (1, .int (i32 x1)), (2, .int (i32 x2)), (3, .int (i32 x3))]) d_S_ruledAfter_1 (by decide) rfl ?_
  refine vj_sub [1, 2, 3, 4, 0] rfl ?_
  exact wl_S_ruledAfter_3 G0 n  n x1 x2 x3 0 hx1 hx2 hx3 ic_0 _ hF
set_option maxHeartbeats 4000000 in
set_option maxRecDepth 100000 in
theorem wk_S_cheapest_115 {w : Wd} {X : Cx} {r : Int} {M9 : Mm} (G0 : Gx LC w X "WhoRules$Search" b_S_cheapest 8 5 126 (some .long)) (n : Nat) (k28 : Int → Int → Int → Int → Int → Mm → Rr) (hk28 : ∀ (x1 x2 x3 x4 x5 : Int) (hx1 : inR x1) (hx2 : inR x2) (hx3 : inR x3) (hx4 : inR x4) (hx5 : inR x5) (M : Mm), k28 x1 x2 x3 x4 x5 M = some (r, M9) → VJ LC w X 8 2 r M9 M [(0, .ref (wa w 4)), (1, .int (i32 x1)), (2, .int (i32 x2)), (3, .int (i32 x3)), (4, .int (i32 x4)), (5, .int (i32 x5))] [] 28) (x1 x2 x3 x4 x5 : Int) (hx1 : inR x1) (hx2 : inR x2) (hx3 : inR x3) (hx4 : inR x4) (hx5 : inR x5) (M : Mm) (hF : f_S_cheapest_115 n k28 x1 x2 x3 x4 x5 M = some (r, M9)) : VJ LC w X 8 2 r M9 M [(0, .ref (wa w 4)), (1, .int (i32 x1)), (2, .int (i32 x2)), (3, .int (i32 x3)), (4, .int (i32 x4)), (5, .int (i32 x5))] [] 115 := by
  have G := G0.1
  unfold f_S_cheapest_115 at hF
  refine vj_iinc G (p9 := 5) (n := 1) (lv2 := [(5, .int (i32 (w32 (x5 + 1)))), (0, .ref (wa w 4)), (1, .int (i32 x1)), (2, .int (i32 x2)), (3, .int (i32 x3)), (4, .int (i32 x4))]) d_S_cheapest_115 rfl (by decide) rfl ?_
  refine vj_goto G (tgt := 28) d_S_cheapest_118 (by decide) ?_
  refine vj_sub [1, 2, 3, 4, 5, 0] rfl ?_
  exact hk28 x1 x2 x3 x4 (w32 (x5 + 1)) hx1 hx2 hx3 hx4 (ir_w _) _ hF
set_option maxHeartbeats 4000000 in
set_option maxRecDepth 100000 in
theorem wk_S_cheapest_96 {w : Wd} {X : Cx} {r : Int} {M9 : Mm} (G0 : Gx LC w X "WhoRules$Search" b_S_cheapest 8 5 126 (some .long)) (n : Nat) (k28 : Int → Int → Int → Int → Int → Mm → Rr) (hk28 : ∀ (x1 x2 x3 x4 x5 : Int) (hx1 : inR x1) (hx2 : inR x2) (hx3 : inR x3) (hx4 : inR x4) (hx5 : inR x5) (M : Mm), k28 x1 x2 x3 x4 x5 M = some (r, M9) → VJ LC w X 8 2 r M9 M [(0, .ref (wa w 4)), (1, .int (i32 x1)), (2, .int (i32 x2)), (3, .int (i32 x3)), (4, .int (i32 x4)), (5, .int (i32 x5))] [] 28) (x1 x2 x3 x4 x5 x6 : Int) (hx1 : inR x1) (hx2 : inR x2) (hx3 : inR x3) (hx4 : inR x4) (hx5 : inR x5) (hx6 : inR x6) (M : Mm) (hF : f_S_cheapest_96 n k28 x1 x2 x3 x4 x5 x6 M = some (r, M9)) : VJ LC w X 8 2 r M9 M [(0, .ref (wa w 4)), (1, .int (i32 x1)), (2, .int (i32 x2)), (3, .int (i32 x3)), (4, .int (i32 x4)), (5, .int (i32 x5)), (6, .int (i32 x6))] [] 96 := by
  have G := G0.1
  unfold f_S_cheapest_96 at hF
  refine vj_aload_n G (p9 := 0) d_S_cheapest_96 rfl rfl ?_
  refine vj_iload G (p9 := 5) d_S_cheapest_97 rfl ?_
  refine vj_iload_n G (p9 := 1) d_S_cheapest_99 rfl rfl ?_
  refine vj_iload_n G (p9 := 2) d_S_cheapest_100 rfl rfl ?_
  obtain ⟨r1, M1, e1, hF⟩ := bnd_some hF
  refine vj_callV1 G (ct_S_ruledAfter (gx_ij G) n x5 x1 x2 hx5 hx1 hx2 e1) lkC_4 clC_10 rfl q_1055 cq_S_ruledAfter rfl (by decide) (by decide) (Nat.le_of_ble_eq_true rfl) d_S_cheapest_101 rfl (fun hr1 => ?_)
  refine vj_iload_n G (p9 := 1) d_S_cheapest_104 rfl rfl ?_
  refine vj_icmp_ne G (tgt := 115) d_S_cheapest_105 (by decide) hr1 hx1 (fun c2 => ?_) (fun c2 => ?_)
  · rw [if_pos c2] at hF
    refine vj_sub [0, 1, 2, 3, 4, 5] rfl ?_
    exact wk_S_cheapest_115 G0 n k28 hk28 x1 x2 x3 x4 x5 hx1 hx2 hx3 hx4 hx5 _ hF
  · rw [if_neg c2] at hF
    refine vj_iload G (p9 := 5) d_S_cheapest_108 rfl ?_
    refine vj_istore_n G (lv2 := [(3, .int (i32 x5)), (0, .ref (wa w 4)), (1, .int (i32 x1)), (2, .int (i32 x2)), (4, .int (i32 x4)), (5, .int (i32 x5)), (6, .int (i32 x6))]) d_S_cheapest_110 rfl (by decide) rfl ?_
    refine vj_iload G (p9 := 6) d_S_cheapest_111 rfl ?_
    refine vj_istore G (lv2 := [(4, .int (i32 x6)), (3, .int (i32 x5)), (0, .ref (wa w 4)), (1, .int (i32 x1)), (2, .int (i32 x2)), (5, .int (i32 x5)), (6, .int (i32 x6))]) d_S_cheapest_113 (by decide) rfl ?_
    refine vj_sub [2, 3, 4, 1, 0, 5] rfl ?_
    exact wk_S_cheapest_115 G0 n k28 hk28 x1 x2 x5 x6 x5 hx1 hx2 hx5 hx6 hx5 _ hF
set_option maxHeartbeats 4000000 in
set_option maxRecDepth 100000 in
theorem wk_S_cheapest_75 {w : Wd} {X : Cx} {r : Int} {M9 : Mm} (G0 : Gx LC w X "WhoRules$Search" b_S_cheapest 8 5 126 (some .long)) (n : Nat) (k28 : Int → Int → Int → Int → Int → Mm → Rr) (hk28 : ∀ (x1 x2 x3 x4 x5 : Int) (hx1 : inR x1) (hx2 : inR x2) (hx3 : inR x3) (hx4 : inR x4) (hx5 : inR x5) (M : Mm), k28 x1 x2 x3 x4 x5 M = some (r, M9) → VJ LC w X 8 2 r M9 M [(0, .ref (wa w 4)), (1, .int (i32 x1)), (2, .int (i32 x2)), (3, .int (i32 x3)), (4, .int (i32 x4)), (5, .int (i32 x5))] [] 28) (x1 x2 x3 x4 x5 x6 s0 : Int) (hx1 : inR x1) (hx2 : inR x2) (hx3 : inR x3) (hx4 : inR x4) (hx5 : inR x5) (hx6 : inR x6) (hs0 : inB s0) (M : Mm) (hF : f_S_cheapest_75 n k28 x1 x2 x3 x4 x5 x6 s0 M = some (r, M9)) : VJ LC w X 8 2 r M9 M [(0, .ref (wa w 4)), (1, .int (i32 x1)), (2, .int (i32 x2)), (3, .int (i32 x3)), (4, .int (i32 x4)), (5, .int (i32 x5)), (6, .int (i32 x6))] [.int (i32 s0)] 75 := by
  have G := G0.1
  unfold f_S_cheapest_75 at hF
  refine vj_istore G (lv2 := [(7, .int (i32 s0)), (0, .ref (wa w 4)), (1, .int (i32 x1)), (2, .int (i32 x2)), (3, .int (i32 x3)), (4, .int (i32 x4)), (5, .int (i32 x5)), (6, .int (i32 x6))]) d_S_cheapest_75 (by decide) rfl ?_
  refine vj_iload G (p9 := 7) d_S_cheapest_77 rfl ?_
  refine vj_iload G (p9 := 5) d_S_cheapest_79 rfl ?_
  refine vj_icmp_lt G (tgt := 96) d_S_cheapest_81 (by decide) hx6 hx4 (fun c1 => ?_) (fun c1 => ?_)
  · rw [if_pos c1] at hF
    refine vj_sub [1, 2, 3, 4, 5, 6, 7] rfl ?_
    exact wk_S_cheapest_96 G0 n k28 hk28 x1 x2 x3 x4 x5 x6 hx1 hx2 hx3 hx4 hx5 hx6 _ hF
  · rw [if_neg c1] at hF
    refine vj_iload G (p9 := 7) d_S_cheapest_84 rfl ?_
    refine vj_iload G (p9 := 5) d_S_cheapest_86 rfl ?_
    refine vj_icmp_ne G (tgt := 115) d_S_cheapest_88 (by decide) hx6 hx4 (fun c2 => ?_) (fun c2 => ?_)
    · rw [if_pos c2] at hF
      refine vj_sub [1, 2, 3, 4, 5, 6] rfl ?_
      exact wk_S_cheapest_115 G0 n k28 hk28 x1 x2 x3 x4 x5 hx1 hx2 hx3 hx4 hx5 _ hF
    · rw [if_neg c2] at hF
      refine vj_iload G (p9 := 0) d_S_cheapest_91 rfl ?_
      refine vj_if_eq G (tgt := 115) d_S_cheapest_93 (by decide) (ir_b hs0) (fun c3 => ?_) (fun c3 => ?_)
      · rw [if_pos c3] at hF
        refine vj_sub [1, 2, 3, 4, 5, 6] rfl ?_
        exact wk_S_cheapest_115 G0 n k28 hk28 x1 x2 x3 x4 x5 hx1 hx2 hx3 hx4 hx5 _ hF
      · rw [if_neg c3] at hF
        refine vj_sub [1, 2, 3, 4, 5, 6, 7] rfl ?_
        exact wk_S_cheapest_96 G0 n k28 hk28 x1 x2 x3 x4 x5 x6 hx1 hx2 hx3 hx4 hx5 hx6 _ hF
set_option maxHeartbeats 4000000 in
set_option maxRecDepth 100000 in
theorem wk_S_cheapest_74 {w : Wd} {X : Cx} {r : Int} {M9 : Mm} (G0 : Gx LC w X "WhoRules$Search" b_S_cheapest 8 5 126 (some .long)) (n : Nat) (k28 : Int → Int → Int → Int → Int → Mm → Rr) (hk28 : ∀ (x1 x2 x3 x4 x5 : Int) (hx1 : inR x1) (hx2 : inR x2) (hx3 : inR x3) (hx4 : inR x4) (hx5 : inR x5) (M : Mm), k28 x1 x2 x3 x4 x5 M = some (r, M9) → VJ LC w X 8 2 r M9 M [(0, .ref (wa w 4)), (1, .int (i32 x1)), (2, .int (i32 x2)), (3, .int (i32 x3)), (4, .int (i32 x4)), (5, .int (i32 x5))] [] 28) (x1 x2 x3 x4 x5 x6 : Int) (hx1 : inR x1) (hx2 : inR x2) (hx3 : inR x3) (hx4 : inR x4) (hx5 : inR x5) (hx6 : inR x6) (M : Mm) (hF : f_S_cheapest_74 n k28 x1 x2 x3 x4 x5 x6 M = some (r, M9)) : VJ LC w X 8 2 r M9 M [(0, .ref (wa w 4)), (1, .int (i32 x1)), (2, .int (i32 x2)), (3, .int (i32 x3)), (4, .int (i32 x4)), (5, .int (i32 x5)), (6, .int (i32 x6))] [] 74 := by
  have G := G0.1
  unfold f_S_cheapest_74 at hF
  refine vj_iconst G (v := 0) d_S_cheapest_74 rfl ?_
  exact wk_S_cheapest_75 G0 n k28 hk28 x1 x2 x3 x4 x5 x6 0 hx1 hx2 hx3 hx4 hx5 hx6 (Or.inl rfl) _ hF
set_option maxHeartbeats 4000000 in
set_option maxRecDepth 100000 in
theorem wk_S_cheapest_28 {w : Wd} {X : Cx} {r : Int} {M9 : Mm} (G0 : Gx LC w X "WhoRules$Search" b_S_cheapest 8 5 126 (some .long)) (n : Nat) (k28 : Int → Int → Int → Int → Int → Mm → Rr) (hk28 : ∀ (x1 x2 x3 x4 x5 : Int) (hx1 : inR x1) (hx2 : inR x2) (hx3 : inR x3) (hx4 : inR x4) (hx5 : inR x5) (M : Mm), k28 x1 x2 x3 x4 x5 M = some (r, M9) → VJ LC w X 8 2 r M9 M [(0, .ref (wa w 4)), (1, .int (i32 x1)), (2, .int (i32 x2)), (3, .int (i32 x3)), (4, .int (i32 x4)), (5, .int (i32 x5))] [] 28) (x1 x2 x3 x4 x5 : Int) (hx1 : inR x1) (hx2 : inR x2) (hx3 : inR x3) (hx4 : inR x4) (hx5 : inR x5) (M : Mm) (hF : f_S_cheapest_28 n k28 x1 x2 x3 x4 x5 M = some (r, M9)) : VJ LC w X 8 2 r M9 M [(0, .ref (wa w 4)), (1, .int (i32 x1)), (2, .int (i32 x2)), (3, .int (i32 x3)), (4, .int (i32 x4)), (5, .int (i32 x5))] [] 28 := by
  have G := G0.1
  unfold f_S_cheapest_28 at hF
  refine vj_iload G (p9 := 5) d_S_cheapest_28 rfl ?_
  refine vj_iconst G (v := 1) d_S_cheapest_30 rfl ?_
  refine vj_aload_n G (p9 := 0) d_S_cheapest_31 rfl rfl ?_
  refine gfC_S_154 G d_S_cheapest_32 ?_
  refine vj_mr (fun hM1 => ?_)
  refine vj_ishl G d_S_cheapest_35 ?_
  refine vj_icmp_ge G (tgt := 121) d_S_cheapest_36 (by decide) hx5 (ir_sh _ _) (fun c2 => ?_) (fun c2 => ?_)
  · rw [if_pos c2] at hF
    refine vj_iload_n G (p9 := 3) d_S_cheapest_121 rfl rfl ?_
    refine vj_if_ge G (tgt := 131) d_S_cheapest_122 (by decide) hx3 (fun c3 => ?_) (fun c3 => ?_)
    · rw [if_pos c3] at hF
      refine vj_aload_n G (p9 := 0) d_S_cheapest_131 rfl rfl ?_
      refine vj_iload_n G (p9 := 3) d_S_cheapest_132 rfl rfl ?_
      obtain ⟨r4, M4, e4, hF⟩ := bnd_some hF
      refine vj_callV2 G (ct_S_sharesOf (gx_ij G) n x3 hx3 e4) lkC_4 clC_10 rfl q_1041 cq_S_sharesOf rfl (by decide) (by decide) (Nat.le_of_ble_eq_true rfl) d_S_cheapest_133 rfl (fun hr4 => ?_)
      cases hF
      exact vj_lret G0 hr4 d_S_cheapest_136
    · rw [if_neg c3] at hF
      refine vj_ldc2 G (v := (-5)) d_S_cheapest_125 q_1064 rfl ?_
      refine vj_goto G (tgt := 136) d_S_cheapest_128 (by decide) ?_
      cases hF
      exact vj_lret G0 ⟨by decide, by decide⟩ d_S_cheapest_136
  · rw [if_neg c2] at hF
    refine vj_aload_n G (p9 := 0) d_S_cheapest_39 rfl rfl ?_
    refine gfC_S_38 G d_S_cheapest_40 ?_
    refine vj_aload_n G (p9 := 0) d_S_cheapest_43 rfl rfl ?_
    refine vj_iload G (p9 := 5) d_S_cheapest_44 rfl ?_
    obtain ⟨r5, M5, e5, hF⟩ := bnd_some hF
    refine vj_callV2 G (ct_S_sharesOf (gx_ij G) n x5 hx5 e5) lkC_4 clC_10 rfl q_1041 cq_S_sharesOf rfl (by decide) (by decide) (Nat.le_of_ble_eq_true rfl) d_S_cheapest_46 rfl (fun hr5 => ?_)
    obtain ⟨r6, M6, e6, hF⟩ := bnd_some hF
    refine vj_callV1 G (ct_R_priceOf (gx_ij G) n r5 hr5 e6) lkC_1 clC_7 rfl q_1045 cq_R_priceOf rfl (by decide) (by decide) (Nat.le_of_ble_eq_true rfl) d_S_cheapest_49 rfl (fun hr6 => ?_)
    refine vj_istore G (lv2 := [(6, .int (i32 r6)), (0, .ref (wa w 4)), (1, .int (i32 x1)), (2, .int (i32 x2)), (3, .int (i32 x3)), (4, .int (i32 x4)), (5, .int (i32 x5))]) d_S_cheapest_52 (by decide) rfl ?_
    refine vj_iload_n G (p9 := 4) d_S_cheapest_54 rfl rfl ?_
    refine vj_if_lt G (tgt := 74) d_S_cheapest_55 (by decide) hx3 (fun c7 => ?_) (fun c7 => ?_)
    · rw [if_pos c7] at hF
      refine vj_sub [1, 2, 3, 4, 5, 6, 0] rfl ?_
      exact wk_S_cheapest_74 G0 n k28 hk28 x1 x2 x3 x4 x5 r6 hx1 hx2 hx3 hx4 hx5 hr6 _ hF
    · rw [if_neg c7] at hF
      refine vj_iload G (p9 := 6) d_S_cheapest_58 rfl ?_
      obtain ⟨r8, M8, e8, hF⟩ := bnd_some hF
      refine vj_callS1 G (ct_JI_bitCount (gx_ij G) n x5 hx5 e8) q_1049 cq_JI_bitCount rfl (by decide) (by decide) (Nat.le_of_ble_eq_true rfl) d_S_cheapest_60 rfl (fun hr8 => ?_)
      refine vj_iload_n G (p9 := 4) d_S_cheapest_63 rfl rfl ?_
      obtain ⟨r9, M9, e9, hF⟩ := bnd_some hF
      refine vj_callS1 G (ct_JI_bitCount (gx_ij G) n x3 hx3 e9) q_1049 cq_JI_bitCount rfl (by decide) (by decide) (Nat.le_of_ble_eq_true rfl) d_S_cheapest_64 rfl (fun hr9 => ?_)
      refine vj_icmp_ge G (tgt := 74) d_S_cheapest_67 (by decide) hr8 hr9 (fun c10 => ?_) (fun c10 => ?_)
      · rw [if_pos c10] at hF
        refine vj_sub [1, 2, 3, 4, 5, 6, 0] rfl ?_
        exact wk_S_cheapest_74 G0 n k28 hk28 x1 x2 x3 x4 x5 r6 hx1 hx2 hx3 hx4 hx5 hr6 _ hF
      · rw [if_neg c10] at hF
        refine vj_iconst G (v := 1) d_S_cheapest_70 rfl ?_
        refine vj_goto G (tgt := 75) d_S_cheapest_71 (by decide) ?_
        refine vj_sub [1, 2, 3, 4, 5, 6, 0] rfl ?_
        exact wk_S_cheapest_75 G0 n k28 hk28 x1 x2 x3 x4 x5 r6 1 hx1 hx2 hx3 hx4 hx5 hr6 (Or.inr rfl) _ hF
set_option maxHeartbeats 4000000 in
set_option maxRecDepth 100000 in
theorem wl_S_cheapest_28 {w : Wd} {X : Cx} {r : Int} {M9 : Mm} (G0 : Gx LC w X "WhoRules$Search" b_S_cheapest 8 5 126 (some .long)) (n : Nat) : ∀ (f : Nat) (x1 x2 x3 x4 x5 : Int) (hx1 : inR x1) (hx2 : inR x2) (hx3 : inR x3) (hx4 : inR x4) (hx5 : inR x5) (M : Mm), lp_S_cheapest_28 n f x1 x2 x3 x4 x5 M = some (r, M9) → VJ LC w X 8 2 r M9 M [(0, .ref (wa w 4)), (1, .int (i32 x1)), (2, .int (i32 x2)), (3, .int (i32 x3)), (4, .int (i32 x4)), (5, .int (i32 x5))] [] 28 := by
  intro f
  induction f with
  | zero => intro x1 x2 x3 x4 x5 hx1 hx2 hx3 hx4 hx5 M hF; cases hF
  | succ f ih => intro x1 x2 x3 x4 x5 hx1 hx2 hx3 hx4 hx5 M hF; exact wk_S_cheapest_28 G0 n (lp_S_cheapest_28 n f) ih x1 x2 x3 x4 x5 hx1 hx2 hx3 hx4 hx5 M hF
set_option maxHeartbeats 4000000 in
set_option maxRecDepth 100000 in
theorem ct_S_cheapest {w : Wd} (hij : ij LC w) (n : Nat) (x1 x2 : Int) (hx1 : inR x1) (hx2 : inR x2) {M : Mm} {r : Int} {M9 : Mm} (hF : f_S_cheapest n x1 x2 M = some (r, M9)) : Ct LC w y_S_cheapest b_S_cheapest 8 (some .long) 5 126 2 [.ref (wa w 4), .int (i32 x1), .int (i32 x2)] M r M9 := by
  refine Ct.of hij KstC (by decide +kernel) (Nat.le_of_ble_eq_true rfl) (fun X G0 => ?_)
  have G := G0.1
  show VJ LC w X 8 2 r M9 M [(0, .ref (wa w 4)), (1, .int (i32 x1)), (2, .int (i32 x2))] [] 0
  unfold f_S_cheapest at hF
  refine vj_aload_n G (p9 := 0) d_S_cheapest_0 rfl rfl ?_
  refine gfC_S_42 G d_S_cheapest_1 ?_
  refine vj_aload_n G (p9 := 0) d_S_cheapest_4 rfl rfl ?_
  refine gfC_S_38 G d_S_cheapest_5 ?_
  refine gfC_S_122 G d_S_cheapest_8 ?_
  refine vj_mr (fun hM1 => ?_)
  obtain ⟨r2, M2, e2, hF⟩ := bnd_some hF
  refine vj_callV0 G (ct_U_look (gx_ij G) n (M 1 0) (mr_o hM1 lkC_1 flC_7_0) e2) lkC_3 clC_9 rfl q_1010 cq_U_look rfl (by decide) (by decide) (Nat.le_of_ble_eq_true rfl) d_S_cheapest_11 rfl (fun hr2 => ?_)
  refine vj_aload_n G (p9 := 0) d_S_cheapest_14 rfl rfl ?_
  refine vj_iload_n G (p9 := 1) d_S_cheapest_15 rfl rfl ?_
  obtain ⟨r3, M3, e3, hF⟩ := bnd_some hF
  refine vj_callV0 G (ct_S_pickForSale (gx_ij G) n x1 hx1 e3) lkC_4 clC_10 rfl q_1036 cq_S_pickForSale rfl (by decide) (by decide) (Nat.le_of_ble_eq_true rfl) d_S_cheapest_16 rfl (fun hr3 => ?_)
  refine vj_iconst G (v := (-1)) d_S_cheapest_19 rfl ?_
  refine vj_istore_n G (lv2 := [(3, .int (i32 (-1))), (0, .ref (wa w 4)), (1, .int (i32 x1)), (2, .int (i32 x2))]) d_S_cheapest_20 rfl (by decide) rfl ?_
  refine vj_ldc G (v := 39961) d_S_cheapest_21 q_1040 rfl ?_
  refine vj_istore G (lv2 := [(4, .int (i32 39961)), (3, .int (i32 (-1))), (0, .ref (wa w 4)), (1, .int (i32 x1)), (2, .int (i32 x2))]) d_S_cheapest_23 (by decide) rfl ?_
  refine vj_iconst G (v := 0) d_S_cheapest_25 rfl ?_
  refine vj_istore G (lv2 := [(5, .int (i32 0)), (4, .int (i32 39961)), (3, .int (i32 (-1))), (0, .ref (wa w 4)), (1, .int (i32 x1)), (2, .int (i32 x2))]) d_S_cheapest_26 (by decide) rfl ?_
  refine vj_sub [3, 4, 5, 2, 1, 0] rfl ?_
  exact wl_S_cheapest_28 G0 n  n x1 x2 (-1) 39961 0 hx1 hx2 ic_m1 ic_39961 ic_0 _ hF
set_option maxHeartbeats 4000000 in
set_option maxRecDepth 100000 in
theorem wk_W_buy_57 {w : Wd} {X : Cx} {r : Int} {M9 : Mm} (G0 : Gx LC w X "WhoRules" b_W_buy 6 6 153 (some .long)) (n : Nat) (x4 : Int) (hx4 : in64 x4) (M : Mm) (hF : f_W_buy_57 n x4 M = some (r, M9)) : VJ LC w X 6 2 r M9 M [(4, .long (i64 x4))] [] 57 := by
  have G := G0.1
  unfold f_W_buy_57 at hF
  refine vj_lload G (p9 := 0) d_W_buy_57 rfl ?_
  refine vj_goto G (tgt := 72) d_W_buy_59 (by decide) ?_
  cases hF
  exact vj_lret G0 hx4 d_W_buy_72
set_option maxHeartbeats 4000000 in
set_option maxRecDepth 100000 in
theorem ct_W_buy {w : Wd} (hij : ij LC w) (n : Nat) (x1 x2 x3 : Int) (hx1 : inR x1) (hx2 : inR x2) (hx3 : inR x3) {M : Mm} {r : Int} {M9 : Mm} (hF : f_W_buy n x1 x2 x3 M = some (r, M9)) : Ct LC w y_W_buy b_W_buy 6 (some .long) 6 153 2 [.ref (wa w 0), .int (i32 x1), .int (i32 x2), .int (i32 x3)] M r M9 := by
  refine Ct.of hij KstC (by decide +kernel) (Nat.le_of_ble_eq_true rfl) (fun X G0 => ?_)
  have G := G0.1
  show VJ LC w X 6 2 r M9 M [(0, .ref (wa w 0)), (1, .int (i32 x1)), (2, .int (i32 x2)), (3, .int (i32 x3))] [] 0
  unfold f_W_buy at hF
  refine vj_aload_n G (p9 := 0) d_W_buy_0 rfl rfl ?_
  refine gfC_W_18 G d_W_buy_1 ?_
  refine vj_iload_n G (p9 := 1) d_W_buy_4 rfl rfl ?_
  obtain ⟨r1, M1, e1, hF⟩ := bnd_some hF
  refine vj_callV3 G (ct_R_isRuler (gx_ij G) n x1 hx1 e1) lkC_1 clC_7 rfl q_1031 cq_R_isRuler rfl (by decide) (by decide) (Nat.le_of_ble_eq_true rfl) d_W_buy_5 rfl (fun hr1 => ?_)
  refine vj_if_eq G (tgt := 31) d_W_buy_8 (by decide) (ir_b hr1) (fun c2 => ?_) (fun c2 => ?_)
  · rw [if_pos c2] at hF
    refine vj_ldc2 G (v := (-9223372036854775808)) d_W_buy_31 q_959 rfl ?_
    cases hF
    exact vj_lret G0 ⟨by decide, by decide⟩ d_W_buy_34
  · rw [if_neg c2] at hF
    refine vj_aload_n G (p9 := 0) d_W_buy_11 rfl rfl ?_
    refine gfC_W_18 G d_W_buy_12 ?_
    refine vj_iload_n G (p9 := 2) d_W_buy_15 rfl rfl ?_
    obtain ⟨r3, M3, e3, hF⟩ := bnd_some hF
    refine vj_callV3 G (ct_R_isFirm (gx_ij G) n x2 hx2 e3) lkC_1 clC_7 rfl q_592 cq_R_isFirm rfl (by decide) (by decide) (Nat.le_of_ble_eq_true rfl) d_W_buy_16 rfl (fun hr3 => ?_)
    refine vj_if_eq G (tgt := 31) d_W_buy_19 (by decide) (ir_b hr3) (fun c4 => ?_) (fun c4 => ?_)
    · rw [if_pos c4] at hF
      refine vj_ldc2 G (v := (-9223372036854775808)) d_W_buy_31 q_959 rfl ?_
      cases hF
      exact vj_lret G0 ⟨by decide, by decide⟩ d_W_buy_34
    · rw [if_neg c4] at hF
      refine vj_iload_n G (p9 := 3) d_W_buy_22 rfl rfl ?_
      refine vj_if_lt G (tgt := 31) d_W_buy_23 (by decide) hx3 (fun c5 => ?_) (fun c5 => ?_)
      · rw [if_pos c5] at hF
        refine vj_ldc2 G (v := (-9223372036854775808)) d_W_buy_31 q_959 rfl ?_
        cases hF
        exact vj_lret G0 ⟨by decide, by decide⟩ d_W_buy_34
      · rw [if_neg c5] at hF
        refine vj_iload_n G (p9 := 3) d_W_buy_26 rfl rfl ?_
        refine vj_iconst G (v := 1) d_W_buy_27 rfl ?_
        refine vj_icmp_le G (tgt := 35) d_W_buy_28 (by decide) hx3 ic_1 (fun c6 => ?_) (fun c6 => ?_)
        · rw [if_pos c6] at hF
          refine vj_aload_n G (p9 := 0) d_W_buy_35 rfl rfl ?_
          refine gfC_W_43 G d_W_buy_36 ?_
          refine vj_iload_n G (p9 := 1) d_W_buy_39 rfl rfl ?_
          refine vj_iload_n G (p9 := 2) d_W_buy_40 rfl rfl ?_
          obtain ⟨r7, M7, e7, hF⟩ := bnd_some hF
          refine vj_callV2 G (ct_S_cheapest (gx_ij G) n x1 x2 hx1 hx2 e7) lkC_4 clC_10 rfl q_1032 cq_S_cheapest rfl (by decide) (by decide) (Nat.le_of_ble_eq_true rfl) d_W_buy_41 rfl (fun hr7 => ?_)
          refine vj_lstore G (lv2 := [(4, .long (i64 r7)), (0, .ref (wa w 0)), (1, .int (i32 x1)), (2, .int (i32 x2)), (3, .int (i32 x3))]) d_W_buy_44 (by decide) rfl ?_
          refine vj_lload G (p9 := 0) d_W_buy_46 rfl ?_
          refine vj_lconst G (v := 0) d_W_buy_48 rfl ?_
          refine vj_lcmp_lt G (tgt := 57) d_W_buy_49 d_W_buy_50 (by decide) hr7 (lr_i ic_0) (fun c8 => ?_) (fun c8 => ?_)
          · rw [if_pos c8] at hF
            refine vj_sub [0] rfl ?_
            exact wk_W_buy_57 G0 n  r7 hr7 _ hF
          · rw [if_neg c8] at hF
            refine vj_iload_n G (p9 := 4) d_W_buy_53 rfl rfl ?_
            refine vj_if_ne G (tgt := 62) d_W_buy_54 (by decide) hx3 (fun c9 => ?_) (fun c9 => ?_)
            · rw [if_pos c9] at hF
              refine vj_aload_n G (p9 := 1) d_W_buy_62 rfl rfl ?_
              refine gfC_W_18 G d_W_buy_63 ?_
              refine vj_lload G (p9 := 0) d_W_buy_66 rfl ?_
              obtain ⟨r10, M10, e10, hF⟩ := bnd_some hF
              refine vj_callV1 G (ct_R_priceOf (gx_ij G) n r7 hr7 e10) lkC_1 clC_7 rfl q_1065 cq_R_priceOf rfl (by decide) (by decide) (Nat.le_of_ble_eq_true rfl) d_W_buy_68 rfl (fun hr10 => ?_)
              refine vj_i2l G d_W_buy_71 hr10 ?_
              cases hF
              exact vj_lret G0 (lr_i hr10) d_W_buy_72
            · rw [if_neg c9] at hF
              refine vj_sub [0] rfl ?_
              exact wk_W_buy_57 G0 n  r7 hr7 _ hF
        · rw [if_neg c6] at hF
          refine vj_ldc2 G (v := (-9223372036854775808)) d_W_buy_31 q_959 rfl ?_
          cases hF
          exact vj_lret G0 ⟨by decide, by decide⟩ d_W_buy_34
set_option maxHeartbeats 4000000 in
set_option maxRecDepth 100000 in
theorem wk_S_changedWithout_111 {w : Wd} {X : Cx} {r : Int} {M9 : Mm} (G0 : Gx LC w X "WhoRules$Search" b_S_changedWithout 5 5 125 (some .int)) (n : Nat) (k60 : Int → Int → Mm → Rr) (hk60 : ∀ (x2 x3 : Int) (hx2 : inR x2) (hx3 : inR x3) (M : Mm), k60 x2 x3 M = some (r, M9) → VJ LC w X 5 1 r M9 M [(0, .ref (wa w 4)), (2, .int (i32 x2)), (3, .int (i32 x3))] [] 60) (x3 s0 s1 : Int) (hx3 : inR x3) (hs0 : inR s0) (hs1 : inR s1) (M : Mm) (hF : f_S_changedWithout_111 n k60 x3 s0 s1 M = some (r, M9)) : VJ LC w X 5 1 r M9 M [(0, .ref (wa w 4)), (3, .int (i32 x3))] [.int (i32 s1), .int (i32 s0)] 111 := by
  have G := G0.1
  unfold f_S_changedWithout_111 at hF
  refine vj_ior G d_S_changedWithout_111 ?_
  refine vj_istore_n G (lv2 := [(2, .int (i32 (ior s0 s1))), (0, .ref (wa w 4)), (3, .int (i32 x3))]) d_S_changedWithout_112 rfl (by decide) rfl ?_
  refine vj_iinc G (p9 := 2) (n := 1) (lv2 := [(3, .int (i32 (w32 (x3 + 1)))), (2, .int (i32 (ior s0 s1))), (0, .ref (wa w 4))]) d_S_changedWithout_113 rfl (by decide) rfl ?_
  refine vj_goto G (tgt := 60) d_S_changedWithout_116 (by decide) ?_
  refine vj_sub [2, 1, 0] rfl ?_
  exact hk60 (ior s0 s1) (w32 (x3 + 1)) (ir_or _ _) (ir_w _) _ hF
set_option maxHeartbeats 4000000 in
set_option maxRecDepth 100000 in
theorem wk_S_changedWithout_60 {w : Wd} {X : Cx} {r : Int} {M9 : Mm} (G0 : Gx LC w X "WhoRules$Search" b_S_changedWithout 5 5 125 (some .int)) (n : Nat) (k60 : Int → Int → Mm → Rr) (hk60 : ∀ (x2 x3 : Int) (hx2 : inR x2) (hx3 : inR x3) (M : Mm), k60 x2 x3 M = some (r, M9) → VJ LC w X 5 1 r M9 M [(0, .ref (wa w 4)), (2, .int (i32 x2)), (3, .int (i32 x3))] [] 60) (x2 x3 : Int) (hx2 : inR x2) (hx3 : inR x3) (M : Mm) (hF : f_S_changedWithout_60 n k60 x2 x3 M = some (r, M9)) : VJ LC w X 5 1 r M9 M [(0, .ref (wa w 4)), (2, .int (i32 x2)), (3, .int (i32 x3))] [] 60 := by
  have G := G0.1
  unfold f_S_changedWithout_60 at hF
  refine vj_iload_n G (p9 := 2) d_S_changedWithout_60 rfl rfl ?_
  refine vj_aload_n G (p9 := 0) d_S_changedWithout_61 rfl rfl ?_
  refine gfC_S_38 G d_S_changedWithout_62 ?_
  refine gfC_S_49 G d_S_changedWithout_65 ?_
  refine vj_mr (fun hM1 => ?_)
  refine vj_icmp_ge G (tgt := 119) d_S_changedWithout_68 (by decide) hx3 (mr_o hM1 lkC_1 flC_7_2) (fun c2 => ?_) (fun c2 => ?_)
  · rw [if_pos c2] at hF
    refine vj_iload_n G (p9 := 1) d_S_changedWithout_119 rfl rfl ?_
    cases hF
    exact vj_iret G0 hx2 d_S_changedWithout_120
  · rw [if_neg c2] at hF
    refine vj_aload_n G (p9 := 0) d_S_changedWithout_71 rfl rfl ?_
    refine gfC_S_38 G d_S_changedWithout_72 ?_
    refine gfC_S_78 G d_S_changedWithout_75 ?_
    refine vj_iload_n G (p9 := 2) d_S_changedWithout_78 rfl rfl ?_
    obtain ⟨c3, hF⟩ := ck_some hF
    refine vj_iald G (x := x3) lkC_19 (by decide) c3 d_S_changedWithout_79 ?_
    refine vj_mr (fun hM4 => ?_)
    refine vj_istore G (lv2 := [(4, .int (i32 (M 19 x3.toNat))), (0, .ref (wa w 4)), (2, .int (i32 x2)), (3, .int (i32 x3))]) d_S_changedWithout_80 (by decide) rfl ?_
    refine vj_iload_n G (p9 := 2) d_S_changedWithout_82 rfl rfl ?_
    refine vj_aload_n G (p9 := 1) d_S_changedWithout_83 rfl rfl ?_
    refine gfC_S_42 G d_S_changedWithout_84 ?_
    refine gfC_S_91 G d_S_changedWithout_87 ?_
    refine vj_iload G (p9 := 0) d_S_changedWithout_90 rfl ?_
    obtain ⟨c5, hF⟩ := ck_some hF
    refine vj_iald G (x := (M 19 x3.toNat)) lkC_45 (by decide) c5 d_S_changedWithout_92 ?_
    refine vj_aload_n G (p9 := 1) d_S_changedWithout_93 rfl rfl ?_
    refine gfC_S_29 G d_S_changedWithout_94 ?_
    refine vj_iload G (p9 := 0) d_S_changedWithout_97 rfl ?_
    obtain ⟨c6, hF⟩ := ck_some hF
    refine vj_iald G (x := (M 19 x3.toNat)) lkC_53 (by decide) c6 d_S_changedWithout_99 ?_
    refine vj_icmp_eq G (tgt := 110) d_S_changedWithout_100 (by decide) (mr_a hM4 lkC_45) (mr_a hM4 lkC_53) (fun c7 => ?_) (fun c7 => ?_)
    · rw [if_pos c7] at hF
      refine vj_iconst G (v := 0) d_S_changedWithout_110 rfl ?_
      refine vj_sub [1, 3] rfl ?_
      exact wk_S_changedWithout_111 G0 n k60 hk60 x3 x2 0 hx3 hx2 ic_0 _ hF
    · rw [if_neg c7] at hF
      refine vj_iconst G (v := 1) d_S_changedWithout_103 rfl ?_
      refine vj_iload G (p9 := 0) d_S_changedWithout_104 rfl ?_
      refine vj_ishl G d_S_changedWithout_106 ?_
      refine vj_goto G (tgt := 111) d_S_changedWithout_107 (by decide) ?_
      refine vj_sub [1, 3] rfl ?_
      exact wk_S_changedWithout_111 G0 n k60 hk60 x3 x2 (ish 1 (M 19 x3.toNat)) hx3 hx2 (ir_sh _ _) _ hF
set_option maxHeartbeats 4000000 in
set_option maxRecDepth 100000 in
theorem wl_S_changedWithout_60 {w : Wd} {X : Cx} {r : Int} {M9 : Mm} (G0 : Gx LC w X "WhoRules$Search" b_S_changedWithout 5 5 125 (some .int)) (n : Nat) : ∀ (f : Nat) (x2 x3 : Int) (hx2 : inR x2) (hx3 : inR x3) (M : Mm), lp_S_changedWithout_60 n f x2 x3 M = some (r, M9) → VJ LC w X 5 1 r M9 M [(0, .ref (wa w 4)), (2, .int (i32 x2)), (3, .int (i32 x3))] [] 60 := by
  intro f
  induction f with
  | zero => intro x2 x3 hx2 hx3 M hF; cases hF
  | succ f ih => intro x2 x3 hx2 hx3 M hF; exact wk_S_changedWithout_60 G0 n (lp_S_changedWithout_60 n f) ih x2 x3 hx2 hx3 M hF
set_option maxHeartbeats 4000000 in
set_option maxRecDepth 100000 in
theorem ct_S_changedWithout {w : Wd} (hij : ij LC w) (n : Nat) (x1 : Int) (hx1 : inR x1) {M : Mm} {r : Int} {M9 : Mm} (hF : f_S_changedWithout n x1 M = some (r, M9)) : Ct LC w y_S_changedWithout b_S_changedWithout 5 (some .int) 5 125 1 [.ref (wa w 4), .int (i32 x1)] M r M9 := by
  refine Ct.of hij KstC (by decide +kernel) (Nat.le_of_ble_eq_true rfl) (fun X G0 => ?_)
  have G := G0.1
  show VJ LC w X 5 1 r M9 M [(0, .ref (wa w 4)), (1, .int (i32 x1))] [] 0
  unfold f_S_changedWithout at hF
  refine vj_aload_n G (p9 := 0) d_S_changedWithout_0 rfl rfl ?_
  refine gfC_S_42 G d_S_changedWithout_1 ?_
  refine vj_aload_n G (p9 := 0) d_S_changedWithout_4 rfl rfl ?_
  refine gfC_S_38 G d_S_changedWithout_5 ?_
  refine gfC_S_122 G d_S_changedWithout_8 ?_
  refine vj_mr (fun hM1 => ?_)
  obtain ⟨r2, M2, e2, hF⟩ := bnd_some hF
  refine vj_callV0 G (ct_U_look (gx_ij G) n (M 1 0) (mr_o hM1 lkC_1 flC_7_0) e2) lkC_3 clC_9 rfl q_1010 cq_U_look rfl (by decide) (by decide) (Nat.le_of_ble_eq_true rfl) d_S_changedWithout_11 rfl (fun hr2 => ?_)
  refine vj_aload_n G (p9 := 0) d_S_changedWithout_14 rfl rfl ?_
  refine gfC_S_42 G d_S_changedWithout_15 ?_
  obtain ⟨r3, M3, e3, hF⟩ := bnd_some hF
  refine vj_callV0 G (ct_U_least (gx_ij G) n   e3) lkC_3 clC_9 rfl q_1011 cq_U_least rfl (by decide) (by decide) (Nat.le_of_ble_eq_true rfl) d_S_changedWithout_18 rfl (fun hr3 => ?_)
  refine vj_aload_n G (p9 := 0) d_S_changedWithout_21 rfl rfl ?_
  refine gfC_S_42 G d_S_changedWithout_22 ?_
  refine gfC_S_91 G d_S_changedWithout_25 ?_
  refine vj_iconst G (v := 0) d_S_changedWithout_28 rfl ?_
  refine vj_aload_n G (p9 := 0) d_S_changedWithout_29 rfl rfl ?_
  refine gfC_S_29 G d_S_changedWithout_30 ?_
  refine vj_iconst G (v := 0) d_S_changedWithout_33 rfl ?_
  refine vj_bipush G (v := 16) d_S_changedWithout_34 rfl ?_
  obtain ⟨c4, hF⟩ := ck_some hF
  refine vj_acopyI G lkC_45 lkC_53 (by decide) (by decide) (by decide) (by decide) c4 q_1074 q_1076 q_1075 q_129 d_S_changedWithout_36 ?_
  refine vj_aload_n G (p9 := 0) d_S_changedWithout_39 rfl rfl ?_
  refine gfC_S_42 G d_S_changedWithout_40 ?_
  refine vj_iload_n G (p9 := 1) d_S_changedWithout_43 rfl rfl ?_
  refine vj_bipush G (v := (-5)) d_S_changedWithout_44 rfl ?_
  obtain ⟨r5, M5, e5, hF⟩ := bnd_some hF
  refine vj_callV0 G (ct_U_suppose (gx_ij G) n x1 (-5) hx1 ic_m5 e5) lkC_3 clC_9 rfl q_1059 cq_U_suppose rfl (by decide) (by decide) (Nat.le_of_ble_eq_true rfl) d_S_changedWithout_46 rfl (fun hr5 => ?_)
  refine vj_aload_n G (p9 := 0) d_S_changedWithout_49 rfl rfl ?_
  refine gfC_S_42 G d_S_changedWithout_50 ?_
  obtain ⟨r6, M6, e6, hF⟩ := bnd_some hF
  refine vj_callV0 G (ct_U_least (gx_ij G) n   e6) lkC_3 clC_9 rfl q_1011 cq_U_least rfl (by decide) (by decide) (Nat.le_of_ble_eq_true rfl) d_S_changedWithout_53 rfl (fun hr6 => ?_)
  refine vj_iconst G (v := 0) d_S_changedWithout_56 rfl ?_
  refine vj_istore_n G (lv2 := [(2, .int (i32 0)), (0, .ref (wa w 4)), (1, .int (i32 x1))]) d_S_changedWithout_57 rfl (by decide) rfl ?_
  refine vj_iconst G (v := 0) d_S_changedWithout_58 rfl ?_
  refine vj_istore_n G (lv2 := [(3, .int (i32 0)), (2, .int (i32 0)), (0, .ref (wa w 4)), (1, .int (i32 x1))]) d_S_changedWithout_59 rfl (by decide) rfl ?_
  refine vj_sub [2, 1, 0] rfl ?_
  exact wl_S_changedWithout_60 G0 n  n 0 0 ic_0 ic_0 _ hF
set_option maxHeartbeats 4000000 in
set_option maxRecDepth 100000 in
theorem ct_W_sold {w : Wd} (hij : ij LC w) (n : Nat) (x1 : Int) (hx1 : inR x1) {M : Mm} {r : Int} {M9 : Mm} (hF : f_W_sold n x1 M = some (r, M9)) : Ct LC w y_W_sold b_W_sold 2 (some .int) 6 149 1 [.ref (wa w 0), .int (i32 x1)] M r M9 := by
  refine Ct.of hij KstC (by decide +kernel) (Nat.le_of_ble_eq_true rfl) (fun X G0 => ?_)
  have G := G0.1
  show VJ LC w X 2 1 r M9 M [(0, .ref (wa w 0)), (1, .int (i32 x1))] [] 0
  unfold f_W_sold at hF
  refine vj_aload_n G (p9 := 0) d_W_sold_0 rfl rfl ?_
  refine gfC_W_18 G d_W_sold_1 ?_
  refine vj_iload_n G (p9 := 1) d_W_sold_4 rfl rfl ?_
  obtain ⟨r1, M1, e1, hF⟩ := bnd_some hF
  refine vj_callV3 G (ct_R_isShare (gx_ij G) n x1 hx1 e1) lkC_1 clC_7 rfl q_613 cq_R_isShare rfl (by decide) (by decide) (Nat.le_of_ble_eq_true rfl) d_W_sold_5 rfl (fun hr1 => ?_)
  refine vj_if_eq G (tgt := 22) d_W_sold_8 (by decide) (ir_b hr1) (fun c2 => ?_) (fun c2 => ?_)
  · rw [if_pos c2] at hF
    refine vj_iconst G (v := (-1)) d_W_sold_22 rfl ?_
    cases hF
    exact vj_iret G0 ic_m1 d_W_sold_23
  · rw [if_neg c2] at hF
    refine vj_aload_n G (p9 := 0) d_W_sold_11 rfl rfl ?_
    refine gfC_W_43 G d_W_sold_12 ?_
    refine vj_iload_n G (p9 := 1) d_W_sold_15 rfl rfl ?_
    obtain ⟨r3, M3, e3, hF⟩ := bnd_some hF
    refine vj_callV1 G (ct_S_changedWithout (gx_ij G) n x1 hx1 e3) lkC_4 clC_10 rfl q_1070 cq_S_changedWithout rfl (by decide) (by decide) (Nat.le_of_ble_eq_true rfl) d_W_sold_16 rfl (fun hr3 => ?_)
    refine vj_goto G (tgt := 23) d_W_sold_19 (by decide) ?_
    cases hF
    exact vj_iret G0 hr3 d_W_sold_23
set_option maxHeartbeats 4000000 in
set_option maxRecDepth 100000 in
theorem wk_S_pickOfGroup_80 {w : Wd} {X : Cx} {r : Int} {M9 : Mm} (G0 : Gx LC w X "WhoRules$Search" b_S_pickOfGroup 3 0 0 none) (n : Nat) (k7 : Int → Int → Mm → Rr) (hk7 : ∀ (x1 x2 : Int) (hx1 : inR x1) (hx2 : inR x2) (M : Mm), k7 x1 x2 M = some (r, M9) → VJ LC w X 3 0 r M9 M [(0, .ref (wa w 4)), (1, .int (i32 x1)), (2, .int (i32 x2))] [] 7) (x1 x2 : Int) (hx1 : inR x1) (hx2 : inR x2) (M : Mm) (hF : f_S_pickOfGroup_80 n k7 x1 x2 M = some (r, M9)) : VJ LC w X 3 0 r M9 M [(0, .ref (wa w 4)), (1, .int (i32 x1)), (2, .int (i32 x2))] [] 80 := by
  have G := G0.1
  unfold f_S_pickOfGroup_80 at hF
  refine vj_iinc G (p9 := 2) (n := 1) (lv2 := [(2, .int (i32 (w32 (x2 + 1)))), (0, .ref (wa w 4)), (1, .int (i32 x1))]) d_S_pickOfGroup_80 rfl (by decide) rfl ?_
  refine vj_goto G (tgt := 7) d_S_pickOfGroup_83 (by decide) ?_
  refine vj_sub [1, 2, 0] rfl ?_
  exact hk7 x1 (w32 (x2 + 1)) hx1 (ir_w _) _ hF
set_option maxHeartbeats 4000000 in
set_option maxRecDepth 100000 in
theorem wk_S_pickOfGroup_7 {w : Wd} {X : Cx} {r : Int} {M9 : Mm} (G0 : Gx LC w X "WhoRules$Search" b_S_pickOfGroup 3 0 0 none) (n : Nat) (k7 : Int → Int → Mm → Rr) (hk7 : ∀ (x1 x2 : Int) (hx1 : inR x1) (hx2 : inR x2) (M : Mm), k7 x1 x2 M = some (r, M9) → VJ LC w X 3 0 r M9 M [(0, .ref (wa w 4)), (1, .int (i32 x1)), (2, .int (i32 x2))] [] 7) (x1 x2 : Int) (hx1 : inR x1) (hx2 : inR x2) (M : Mm) (hF : f_S_pickOfGroup_7 n k7 x1 x2 M = some (r, M9)) : VJ LC w X 3 0 r M9 M [(0, .ref (wa w 4)), (1, .int (i32 x1)), (2, .int (i32 x2))] [] 7 := by
  have G := G0.1
  unfold f_S_pickOfGroup_7 at hF
  refine vj_iload_n G (p9 := 2) d_S_pickOfGroup_7 rfl rfl ?_
  refine vj_aload_n G (p9 := 0) d_S_pickOfGroup_8 rfl rfl ?_
  refine gfC_S_38 G d_S_pickOfGroup_9 ?_
  refine gfC_S_176 G d_S_pickOfGroup_12 ?_
  refine vj_mr (fun hM1 => ?_)
  refine vj_icmp_ge G (tgt := 86) d_S_pickOfGroup_15 (by decide) hx2 (mr_o hM1 lkC_1 flC_7_4) (fun c2 => ?_) (fun c2 => ?_)
  · rw [if_pos c2] at hF
    cases hF
    exact vj_vret G0 d_S_pickOfGroup_86
  · rw [if_neg c2] at hF
    refine vj_aload_n G (p9 := 0) d_S_pickOfGroup_18 rfl rfl ?_
    refine gfC_S_154 G d_S_pickOfGroup_19 ?_
    refine vj_mr (fun hM3 => ?_)
    refine vj_bipush G (v := 8) d_S_pickOfGroup_22 rfl ?_
    refine vj_icmp_ge G (tgt := 86) d_S_pickOfGroup_24 (by decide) (mr_o hM3 lkC_4 flC_10_3) ic_8 (fun c4 => ?_) (fun c4 => ?_)
    · rw [if_pos c4] at hF
      cases hF
      exact vj_vret G0 d_S_pickOfGroup_86
    · rw [if_neg c4] at hF
      refine vj_aload_n G (p9 := 0) d_S_pickOfGroup_27 rfl rfl ?_
      refine gfC_S_38 G d_S_pickOfGroup_28 ?_
      refine gfC_S_182 G d_S_pickOfGroup_31 ?_
      refine vj_iload_n G (p9 := 2) d_S_pickOfGroup_34 rfl rfl ?_
      obtain ⟨c5, hF⟩ := ck_some hF
      refine vj_iald G (x := x2) lkC_25 (by decide) c5 d_S_pickOfGroup_35 ?_
      refine vj_mr (fun hM6 => ?_)
      refine vj_if_lt G (tgt := 80) d_S_pickOfGroup_36 (by decide) (mr_a hM6 lkC_25) (fun c7 => ?_) (fun c7 => ?_)
      · rw [if_pos c7] at hF
        exact wk_S_pickOfGroup_80 G0 n k7 hk7 x1 x2 hx1 hx2 _ hF
      · rw [if_neg c7] at hF
        refine vj_aload_n G (p9 := 0) d_S_pickOfGroup_39 rfl rfl ?_
        refine gfC_S_42 G d_S_pickOfGroup_40 ?_
        refine gfC_S_91 G d_S_pickOfGroup_43 ?_
        refine vj_aload_n G (p9 := 0) d_S_pickOfGroup_46 rfl rfl ?_
        refine gfC_S_38 G d_S_pickOfGroup_47 ?_
        refine gfC_S_182 G d_S_pickOfGroup_50 ?_
        refine vj_iload_n G (p9 := 2) d_S_pickOfGroup_53 rfl rfl ?_
        obtain ⟨c8, hF⟩ := ck_some hF
        refine vj_iald G (x := x2) lkC_25 (by decide) c8 d_S_pickOfGroup_54 ?_
        refine vj_mr (fun hM9 => ?_)
        obtain ⟨c10, hF⟩ := ck_some hF
        refine vj_iald G (x := (M 25 x2.toNat)) lkC_45 (by decide) c10 d_S_pickOfGroup_55 ?_
        refine vj_iload_n G (p9 := 1) d_S_pickOfGroup_56 rfl rfl ?_
        refine vj_icmp_ne G (tgt := 80) d_S_pickOfGroup_57 (by decide) (mr_a hM9 lkC_45) hx1 (fun c11 => ?_) (fun c11 => ?_)
        · rw [if_pos c11] at hF
          exact wk_S_pickOfGroup_80 G0 n k7 hk7 x1 x2 hx1 hx2 _ hF
        · rw [if_neg c11] at hF
          refine vj_aload_n G (p9 := 0) d_S_pickOfGroup_60 rfl rfl ?_
          refine gfC_S_11 G d_S_pickOfGroup_61 ?_
          refine vj_aload_n G (p9 := 0) d_S_pickOfGroup_64 rfl rfl ?_
          refine gfC_S_154 G d_S_pickOfGroup_65 ?_
          refine vj_mr (fun hM12 => ?_)
          refine vj_iload_n G (p9 := 2) d_S_pickOfGroup_68 rfl rfl ?_
          obtain ⟨c13, hF⟩ := ck_some hF
          refine vj_iast G (x := (M 4 3)) lkC_48 (by decide) (by decide) (by decide) c13 hx2 d_S_pickOfGroup_69 ?_
          refine vj_aload_n G (p9 := 0) d_S_pickOfGroup_70 rfl rfl ?_
          refine vj_dup G d_S_pickOfGroup_71 rfl ?_
          refine gfC_S_154 G d_S_pickOfGroup_72 ?_
          refine vj_mr (fun hM14 => ?_)
          refine vj_iconst G (v := 1) d_S_pickOfGroup_75 rfl ?_
          refine vj_iadd G d_S_pickOfGroup_76 ?_
          refine pfC_S_154 G (ir_w _) d_S_pickOfGroup_77 ?_
          exact wk_S_pickOfGroup_80 G0 n k7 hk7 x1 x2 hx1 hx2 _ hF
set_option maxHeartbeats 4000000 in
set_option maxRecDepth 100000 in
theorem wl_S_pickOfGroup_7 {w : Wd} {X : Cx} {r : Int} {M9 : Mm} (G0 : Gx LC w X "WhoRules$Search" b_S_pickOfGroup 3 0 0 none) (n : Nat) : ∀ (f : Nat) (x1 x2 : Int) (hx1 : inR x1) (hx2 : inR x2) (M : Mm), lp_S_pickOfGroup_7 n f x1 x2 M = some (r, M9) → VJ LC w X 3 0 r M9 M [(0, .ref (wa w 4)), (1, .int (i32 x1)), (2, .int (i32 x2))] [] 7 := by
  intro f
  induction f with
  | zero => intro x1 x2 hx1 hx2 M hF; cases hF
  | succ f ih => intro x1 x2 hx1 hx2 M hF; exact wk_S_pickOfGroup_7 G0 n (lp_S_pickOfGroup_7 n f) ih x1 x2 hx1 hx2 M hF
set_option maxHeartbeats 4000000 in
set_option maxRecDepth 100000 in
theorem ct_S_pickOfGroup {w : Wd} (hij : ij LC w) (n : Nat) (x1 : Int) (hx1 : inR x1) {M : Mm} {r : Int} {M9 : Mm} (hF : f_S_pickOfGroup n x1 M = some (r, M9)) : Ct LC w y_S_pickOfGroup b_S_pickOfGroup 3 none 0 0 0 [.ref (wa w 4), .int (i32 x1)] M r M9 := by
  refine Ct.of hij KstC (by decide +kernel) (Nat.le_of_ble_eq_true rfl) (fun X G0 => ?_)
  have G := G0.1
  show VJ LC w X 3 0 r M9 M [(0, .ref (wa w 4)), (1, .int (i32 x1))] [] 0
  unfold f_S_pickOfGroup at hF
  refine vj_aload_n G (p9 := 0) d_S_pickOfGroup_0 rfl rfl ?_
  refine vj_iconst G (v := 0) d_S_pickOfGroup_1 rfl ?_
  refine pfC_S_154 G ic_0 d_S_pickOfGroup_2 ?_
  refine vj_iconst G (v := 0) d_S_pickOfGroup_5 rfl ?_
  refine vj_istore_n G (lv2 := [(2, .int (i32 0)), (0, .ref (wa w 4)), (1, .int (i32 x1))]) d_S_pickOfGroup_6 rfl (by decide) rfl ?_
  refine vj_sub [1, 2, 0] rfl ?_
  exact wl_S_pickOfGroup_7 G0 n  n x1 0 hx1 ic_0 _ hF
set_option maxHeartbeats 4000000 in
set_option maxRecDepth 100000 in
theorem wk_S_fewestToFree_96 {w : Wd} {X : Cx} {r : Int} {M9 : Mm} (G0 : Gx LC w X "WhoRules$Search" b_S_fewestToFree 6 5 126 (some .long)) (n : Nat) (k53 : Int → Int → Int → Int → Mm → Rr) (hk53 : ∀ (x1 x3 x4 x5 : Int) (hx1 : inR x1) (hx3 : inR x3) (hx4 : inR x4) (hx5 : inR x5) (M : Mm), k53 x1 x3 x4 x5 M = some (r, M9) → VJ LC w X 6 2 r M9 M [(0, .ref (wa w 4)), (1, .int (i32 x1)), (3, .int (i32 x3)), (4, .int (i32 x4)), (5, .int (i32 x5))] [] 53) (x1 x3 x4 x5 : Int) (hx1 : inR x1) (hx3 : inR x3) (hx4 : inR x4) (hx5 : inR x5) (M : Mm) (hF : f_S_fewestToFree_96 n k53 x1 x3 x4 x5 M = some (r, M9)) : VJ LC w X 6 2 r M9 M [(0, .ref (wa w 4)), (1, .int (i32 x1)), (3, .int (i32 x3)), (4, .int (i32 x4)), (5, .int (i32 x5))] [] 96 := by
  have G := G0.1
  unfold f_S_fewestToFree_96 at hF
  refine vj_iinc G (p9 := 4) (n := 1) (lv2 := [(5, .int (i32 (w32 (x5 + 1)))), (0, .ref (wa w 4)), (1, .int (i32 x1)), (3, .int (i32 x3)), (4, .int (i32 x4))]) d_S_fewestToFree_96 rfl (by decide) rfl ?_
  refine vj_goto G (tgt := 53) d_S_fewestToFree_99 (by decide) ?_
  refine vj_sub [1, 2, 3, 4, 0] rfl ?_
  exact hk53 x1 x3 x4 (w32 (x5 + 1)) hx1 hx3 hx4 (ir_w _) _ hF
set_option maxHeartbeats 4000000 in
set_option maxRecDepth 100000 in
theorem wk_S_fewestToFree_53 {w : Wd} {X : Cx} {r : Int} {M9 : Mm} (G0 : Gx LC w X "WhoRules$Search" b_S_fewestToFree 6 5 126 (some .long)) (n : Nat) (k53 : Int → Int → Int → Int → Mm → Rr) (hk53 : ∀ (x1 x3 x4 x5 : Int) (hx1 : inR x1) (hx3 : inR x3) (hx4 : inR x4) (hx5 : inR x5) (M : Mm), k53 x1 x3 x4 x5 M = some (r, M9) → VJ LC w X 6 2 r M9 M [(0, .ref (wa w 4)), (1, .int (i32 x1)), (3, .int (i32 x3)), (4, .int (i32 x4)), (5, .int (i32 x5))] [] 53) (x1 x3 x4 x5 : Int) (hx1 : inR x1) (hx3 : inR x3) (hx4 : inR x4) (hx5 : inR x5) (M : Mm) (hF : f_S_fewestToFree_53 n k53 x1 x3 x4 x5 M = some (r, M9)) : VJ LC w X 6 2 r M9 M [(0, .ref (wa w 4)), (1, .int (i32 x1)), (3, .int (i32 x3)), (4, .int (i32 x4)), (5, .int (i32 x5))] [] 53 := by
  have G := G0.1
  unfold f_S_fewestToFree_53 at hF
  refine vj_iload G (p9 := 4) d_S_fewestToFree_53 rfl ?_
  refine vj_iconst G (v := 1) d_S_fewestToFree_55 rfl ?_
  refine vj_aload_n G (p9 := 0) d_S_fewestToFree_56 rfl rfl ?_
  refine gfC_S_154 G d_S_fewestToFree_57 ?_
  refine vj_mr (fun hM1 => ?_)
  refine vj_ishl G d_S_fewestToFree_60 ?_
  refine vj_icmp_ge G (tgt := 102) d_S_fewestToFree_61 (by decide) hx5 (ir_sh _ _) (fun c2 => ?_) (fun c2 => ?_)
  · rw [if_pos c2] at hF
    refine vj_iload_n G (p9 := 2) d_S_fewestToFree_102 rfl rfl ?_
    refine vj_if_ge G (tgt := 112) d_S_fewestToFree_103 (by decide) hx3 (fun c3 => ?_) (fun c3 => ?_)
    · rw [if_pos c3] at hF
      refine vj_aload_n G (p9 := 0) d_S_fewestToFree_112 rfl rfl ?_
      refine vj_iload_n G (p9 := 2) d_S_fewestToFree_113 rfl rfl ?_
      obtain ⟨r4, M4, e4, hF⟩ := bnd_some hF
      refine vj_callV2 G (ct_S_sharesOf (gx_ij G) n x3 hx3 e4) lkC_4 clC_10 rfl q_1041 cq_S_sharesOf rfl (by decide) (by decide) (Nat.le_of_ble_eq_true rfl) d_S_fewestToFree_114 rfl (fun hr4 => ?_)
      cases hF
      exact vj_lret G0 hr4 d_S_fewestToFree_117
    · rw [if_neg c3] at hF
      refine vj_ldc2 G (v := (-5)) d_S_fewestToFree_106 q_1064 rfl ?_
      refine vj_goto G (tgt := 117) d_S_fewestToFree_109 (by decide) ?_
      cases hF
      exact vj_lret G0 ⟨by decide, by decide⟩ d_S_fewestToFree_117
  · rw [if_neg c2] at hF
    refine vj_iload G (p9 := 4) d_S_fewestToFree_64 rfl ?_
    obtain ⟨r5, M5, e5, hF⟩ := bnd_some hF
    refine vj_callS1 G (ct_JI_bitCount (gx_ij G) n x5 hx5 e5) q_1049 cq_JI_bitCount rfl (by decide) (by decide) (Nat.le_of_ble_eq_true rfl) d_S_fewestToFree_66 rfl (fun hr5 => ?_)
    refine vj_iload G (p9 := 3) d_S_fewestToFree_69 rfl ?_
    refine vj_icmp_ge G (tgt := 96) d_S_fewestToFree_71 (by decide) hr5 hx4 (fun c6 => ?_) (fun c6 => ?_)
    · rw [if_pos c6] at hF
      exact wk_S_fewestToFree_96 G0 n k53 hk53 x1 x3 x4 x5 hx1 hx3 hx4 hx5 _ hF
    · rw [if_neg c6] at hF
      refine vj_aload_n G (p9 := 0) d_S_fewestToFree_74 rfl rfl ?_
      refine vj_iload G (p9 := 4) d_S_fewestToFree_75 rfl ?_
      refine vj_bipush G (v := (-5)) d_S_fewestToFree_77 rfl ?_
      refine vj_iload_n G (p9 := 1) d_S_fewestToFree_79 rfl rfl ?_
      obtain ⟨r7, M7, e7, hF⟩ := bnd_some hF
      refine vj_callV1 G (ct_S_ruledAfter (gx_ij G) n x5 (-5) x1 hx5 ic_m5 hx1 e7) lkC_4 clC_10 rfl q_1055 cq_S_ruledAfter rfl (by decide) (by decide) (Nat.le_of_ble_eq_true rfl) d_S_fewestToFree_80 rfl (fun hr7 => ?_)
      refine vj_if_ge G (tgt := 96) d_S_fewestToFree_83 (by decide) hr7 (fun c8 => ?_) (fun c8 => ?_)
      · rw [if_pos c8] at hF
        exact wk_S_fewestToFree_96 G0 n k53 hk53 x1 x3 x4 x5 hx1 hx3 hx4 hx5 _ hF
      · rw [if_neg c8] at hF
        refine vj_iload G (p9 := 4) d_S_fewestToFree_86 rfl ?_
        refine vj_istore_n G (lv2 := [(3, .int (i32 x5)), (0, .ref (wa w 4)), (1, .int (i32 x1)), (4, .int (i32 x4)), (5, .int (i32 x5))]) d_S_fewestToFree_88 rfl (by decide) rfl ?_
        refine vj_iload G (p9 := 4) d_S_fewestToFree_89 rfl ?_
        obtain ⟨r9, M9, e9, hF⟩ := bnd_some hF
        refine vj_callS1 G (ct_JI_bitCount (gx_ij G) n x5 hx5 e9) q_1049 cq_JI_bitCount rfl (by decide) (by decide) (Nat.le_of_ble_eq_true rfl) d_S_fewestToFree_91 rfl (fun hr9 => ?_)
        refine vj_istore G (lv2 := [(4, .int (i32 r9)), (3, .int (i32 x5)), (0, .ref (wa w 4)), (1, .int (i32 x1)), (5, .int (i32 x5))]) d_S_fewestToFree_94 (by decide) rfl ?_
        refine vj_sub [2, 3, 1, 0, 4] rfl ?_
        exact wk_S_fewestToFree_96 G0 n k53 hk53 x1 x5 r9 x5 hx1 hx5 hr9 hx5 _ hF
set_option maxHeartbeats 4000000 in
set_option maxRecDepth 100000 in
theorem wl_S_fewestToFree_53 {w : Wd} {X : Cx} {r : Int} {M9 : Mm} (G0 : Gx LC w X "WhoRules$Search" b_S_fewestToFree 6 5 126 (some .long)) (n : Nat) : ∀ (f : Nat) (x1 x3 x4 x5 : Int) (hx1 : inR x1) (hx3 : inR x3) (hx4 : inR x4) (hx5 : inR x5) (M : Mm), lp_S_fewestToFree_53 n f x1 x3 x4 x5 M = some (r, M9) → VJ LC w X 6 2 r M9 M [(0, .ref (wa w 4)), (1, .int (i32 x1)), (3, .int (i32 x3)), (4, .int (i32 x4)), (5, .int (i32 x5))] [] 53 := by
  intro f
  induction f with
  | zero => intro x1 x3 x4 x5 hx1 hx3 hx4 hx5 M hF; cases hF
  | succ f ih => intro x1 x3 x4 x5 hx1 hx3 hx4 hx5 M hF; exact wk_S_fewestToFree_53 G0 n (lp_S_fewestToFree_53 n f) ih x1 x3 x4 x5 hx1 hx3 hx4 hx5 M hF
set_option maxHeartbeats 4000000 in
set_option maxRecDepth 100000 in
theorem ct_S_fewestToFree {w : Wd} (hij : ij LC w) (n : Nat) (x1 : Int) (hx1 : inR x1) {M : Mm} {r : Int} {M9 : Mm} (hF : f_S_fewestToFree n x1 M = some (r, M9)) : Ct LC w y_S_fewestToFree b_S_fewestToFree 6 (some .long) 5 126 2 [.ref (wa w 4), .int (i32 x1)] M r M9 := by
  refine Ct.of hij KstC (by decide +kernel) (Nat.le_of_ble_eq_true rfl) (fun X G0 => ?_)
  have G := G0.1
  show VJ LC w X 6 2 r M9 M [(0, .ref (wa w 4)), (1, .int (i32 x1))] [] 0
  unfold f_S_fewestToFree at hF
  refine vj_aload_n G (p9 := 0) d_S_fewestToFree_0 rfl rfl ?_
  refine gfC_S_42 G d_S_fewestToFree_1 ?_
  refine vj_aload_n G (p9 := 0) d_S_fewestToFree_4 rfl rfl ?_
  refine gfC_S_38 G d_S_fewestToFree_5 ?_
  refine gfC_S_122 G d_S_fewestToFree_8 ?_
  refine vj_mr (fun hM1 => ?_)
  obtain ⟨r2, M2, e2, hF⟩ := bnd_some hF
  refine vj_callV0 G (ct_U_look (gx_ij G) n (M 1 0) (mr_o hM1 lkC_1 flC_7_0) e2) lkC_3 clC_9 rfl q_1010 cq_U_look rfl (by decide) (by decide) (Nat.le_of_ble_eq_true rfl) d_S_fewestToFree_11 rfl (fun hr2 => ?_)
  refine vj_aload_n G (p9 := 0) d_S_fewestToFree_14 rfl rfl ?_
  refine gfC_S_42 G d_S_fewestToFree_15 ?_
  obtain ⟨r3, M3, e3, hF⟩ := bnd_some hF
  refine vj_callV0 G (ct_U_least (gx_ij G) n   e3) lkC_3 clC_9 rfl q_1011 cq_U_least rfl (by decide) (by decide) (Nat.le_of_ble_eq_true rfl) d_S_fewestToFree_18 rfl (fun hr3 => ?_)
  refine vj_aload_n G (p9 := 0) d_S_fewestToFree_21 rfl rfl ?_
  refine gfC_S_42 G d_S_fewestToFree_22 ?_
  refine gfC_S_91 G d_S_fewestToFree_25 ?_
  refine vj_iload_n G (p9 := 1) d_S_fewestToFree_28 rfl rfl ?_
  obtain ⟨c4, hF⟩ := ck_some hF
  refine vj_iald G (x := x1) lkC_45 (by decide) c4 d_S_fewestToFree_29 ?_
  refine vj_mr (fun hM5 => ?_)
  refine vj_istore_n G (lv2 := [(2, .int (i32 (M3 45 x1.toNat))), (0, .ref (wa w 4)), (1, .int (i32 x1))]) d_S_fewestToFree_30 rfl (by decide) rfl ?_
  refine vj_iload_n G (p9 := 0) d_S_fewestToFree_31 rfl rfl ?_
  refine vj_if_ge G (tgt := 39) d_S_fewestToFree_32 (by decide) (mr_a hM5 lkC_45) (fun c6 => ?_) (fun c6 => ?_)
  · rw [if_pos c6] at hF
    refine vj_aload_n G (p9 := 1) d_S_fewestToFree_39 rfl rfl ?_
    refine vj_iload_n G (p9 := 0) d_S_fewestToFree_40 rfl rfl ?_
    obtain ⟨r7, M7, e7, hF⟩ := bnd_some hF
    refine vj_callV0 G (ct_S_pickOfGroup (gx_ij G) n (M3 45 x1.toNat) (mr_a hM5 lkC_45) e7) lkC_4 clC_10 rfl q_1086 cq_S_pickOfGroup rfl (by decide) (by decide) (Nat.le_of_ble_eq_true rfl) d_S_fewestToFree_41 rfl (fun hr7 => ?_)
    refine vj_iconst G (v := (-1)) d_S_fewestToFree_44 rfl ?_
    refine vj_istore_n G (lv2 := [(3, .int (i32 (-1))), (2, .int (i32 (M3 45 x1.toNat))), (0, .ref (wa w 4)), (1, .int (i32 x1))]) d_S_fewestToFree_45 rfl (by decide) rfl ?_
    refine vj_bipush G (v := 9) d_S_fewestToFree_46 rfl ?_
    refine vj_istore G (lv2 := [(4, .int (i32 9)), (3, .int (i32 (-1))), (2, .int (i32 (M3 45 x1.toNat))), (0, .ref (wa w 4)), (1, .int (i32 x1))]) d_S_fewestToFree_48 (by decide) rfl ?_
    refine vj_iconst G (v := 1) d_S_fewestToFree_50 rfl ?_
    refine vj_istore G (lv2 := [(5, .int (i32 1)), (4, .int (i32 9)), (3, .int (i32 (-1))), (2, .int (i32 (M3 45 x1.toNat))), (0, .ref (wa w 4)), (1, .int (i32 x1))]) d_S_fewestToFree_51 (by decide) rfl ?_
    refine vj_sub [4, 5, 2, 1, 0] rfl ?_
    exact wl_S_fewestToFree_53 G0 n  n x1 (-1) 9 1 hx1 ic_m1 ic_9 ic_1 _ hF
  · rw [if_neg c6] at hF
    refine vj_ldc2 G (v := (-9223372036854775808)) d_S_fewestToFree_35 q_1085 rfl ?_
    cases hF
    exact vj_lret G0 ⟨by decide, by decide⟩ d_S_fewestToFree_38
set_option maxHeartbeats 4000000 in
set_option maxRecDepth 100000 in
theorem ct_W_free {w : Wd} (hij : ij LC w) (n : Nat) (x1 : Int) (hx1 : inR x1) {M : Mm} {r : Int} {M9 : Mm} (hF : f_W_free n x1 M = some (r, M9)) : Ct LC w y_W_free b_W_free 2 (some .long) 6 151 2 [.ref (wa w 0), .int (i32 x1)] M r M9 := by
  refine Ct.of hij KstC (by decide +kernel) (Nat.le_of_ble_eq_true rfl) (fun X G0 => ?_)
  have G := G0.1
  show VJ LC w X 2 2 r M9 M [(0, .ref (wa w 0)), (1, .int (i32 x1))] [] 0
  unfold f_W_free at hF
  refine vj_aload_n G (p9 := 0) d_W_free_0 rfl rfl ?_
  refine gfC_W_18 G d_W_free_1 ?_
  refine vj_iload_n G (p9 := 1) d_W_free_4 rfl rfl ?_
  obtain ⟨r1, M1, e1, hF⟩ := bnd_some hF
  refine vj_callV3 G (ct_R_isFirm (gx_ij G) n x1 hx1 e1) lkC_1 clC_7 rfl q_592 cq_R_isFirm rfl (by decide) (by decide) (Nat.le_of_ble_eq_true rfl) d_W_free_5 rfl (fun hr1 => ?_)
  refine vj_if_eq G (tgt := 22) d_W_free_8 (by decide) (ir_b hr1) (fun c2 => ?_) (fun c2 => ?_)
  · rw [if_pos c2] at hF
    refine vj_ldc2 G (v := (-9223372036854775808)) d_W_free_22 q_959 rfl ?_
    cases hF
    exact vj_lret G0 ⟨by decide, by decide⟩ d_W_free_25
  · rw [if_neg c2] at hF
    refine vj_aload_n G (p9 := 0) d_W_free_11 rfl rfl ?_
    refine gfC_W_43 G d_W_free_12 ?_
    refine vj_iload_n G (p9 := 1) d_W_free_15 rfl rfl ?_
    obtain ⟨r3, M3, e3, hF⟩ := bnd_some hF
    refine vj_callV2 G (ct_S_fewestToFree (gx_ij G) n x1 hx1 e3) lkC_4 clC_10 rfl q_1081 cq_S_fewestToFree rfl (by decide) (by decide) (Nat.le_of_ble_eq_true rfl) d_W_free_16 rfl (fun hr3 => ?_)
    refine vj_goto G (tgt := 25) d_W_free_19 (by decide) ?_
    cases hF
    exact vj_lret G0 hr3 d_W_free_25
set_option maxHeartbeats 4000000 in
set_option maxRecDepth 100000 in
theorem wk_S_rulesHidden_69 {w : Wd} {X : Cx} {r : Int} {M9 : Mm} (G0 : Gx LC w X "WhoRules$Search" b_S_rulesHidden 6 5 125 (some .boolean)) (n : Nat) (k17 : Int → Int → Int → Int → Int → Mm → Rr) (hk17 : ∀ (x1 x2 x3 x4 x5 : Int) (hx1 : inR x1) (hx2 : inR x2) (hx3 : inR x3) (hx4 : inR x4) (hx5 : inR x5) (M : Mm), k17 x1 x2 x3 x4 x5 M = some (r, M9) → VJ LC w X 6 3 r M9 M [(0, .ref (wa w 4)), (1, .int (i32 x1)), (2, .int (i32 x2)), (3, .int (i32 x3)), (4, .int (i32 x4)), (5, .int (i32 x5))] [] 17) (x1 x2 x3 x4 x5 : Int) (hx1 : inR x1) (hx2 : inR x2) (hx3 : inR x3) (hx4 : inR x4) (hx5 : inR x5) (M : Mm) (hF : f_S_rulesHidden_69 n k17 x1 x2 x3 x4 x5 M = some (r, M9)) : VJ LC w X 6 3 r M9 M [(0, .ref (wa w 4)), (1, .int (i32 x1)), (2, .int (i32 x2)), (3, .int (i32 x3)), (4, .int (i32 x4)), (5, .int (i32 x5))] [] 69 := by
  have G := G0.1
  unfold f_S_rulesHidden_69 at hF
  refine vj_iinc G (p9 := 5) (n := 1) (lv2 := [(5, .int (i32 (w32 (x5 + 1)))), (0, .ref (wa w 4)), (1, .int (i32 x1)), (2, .int (i32 x2)), (3, .int (i32 x3)), (4, .int (i32 x4))]) d_S_rulesHidden_69 rfl (by decide) rfl ?_
  refine vj_goto G (tgt := 17) d_S_rulesHidden_72 (by decide) ?_
  refine vj_sub [1, 2, 3, 4, 5, 0] rfl ?_
  exact hk17 x1 x2 x3 x4 (w32 (x5 + 1)) hx1 hx2 hx3 hx4 (ir_w _) _ hF
set_option maxHeartbeats 4000000 in
set_option maxRecDepth 100000 in
theorem wk_S_rulesHidden_17 {w : Wd} {X : Cx} {r : Int} {M9 : Mm} (G0 : Gx LC w X "WhoRules$Search" b_S_rulesHidden 6 5 125 (some .boolean)) (n : Nat) (k17 : Int → Int → Int → Int → Int → Mm → Rr) (hk17 : ∀ (x1 x2 x3 x4 x5 : Int) (hx1 : inR x1) (hx2 : inR x2) (hx3 : inR x3) (hx4 : inR x4) (hx5 : inR x5) (M : Mm), k17 x1 x2 x3 x4 x5 M = some (r, M9) → VJ LC w X 6 3 r M9 M [(0, .ref (wa w 4)), (1, .int (i32 x1)), (2, .int (i32 x2)), (3, .int (i32 x3)), (4, .int (i32 x4)), (5, .int (i32 x5))] [] 17) (x1 x2 x3 x4 x5 : Int) (hx1 : inR x1) (hx2 : inR x2) (hx3 : inR x3) (hx4 : inR x4) (hx5 : inR x5) (M : Mm) (hF : f_S_rulesHidden_17 n k17 x1 x2 x3 x4 x5 M = some (r, M9)) : VJ LC w X 6 3 r M9 M [(0, .ref (wa w 4)), (1, .int (i32 x1)), (2, .int (i32 x2)), (3, .int (i32 x3)), (4, .int (i32 x4)), (5, .int (i32 x5))] [] 17 := by
  have G := G0.1
  unfold f_S_rulesHidden_17 at hF
  refine vj_iload G (p9 := 5) d_S_rulesHidden_17 rfl ?_
  refine vj_aload_n G (p9 := 0) d_S_rulesHidden_19 rfl rfl ?_
  refine gfC_S_38 G d_S_rulesHidden_20 ?_
  refine gfC_S_176 G d_S_rulesHidden_23 ?_
  refine vj_mr (fun hM1 => ?_)
  refine vj_icmp_ge G (tgt := 75) d_S_rulesHidden_26 (by decide) hx5 (mr_o hM1 lkC_1 flC_7_4) (fun c2 => ?_) (fun c2 => ?_)
  · rw [if_pos c2] at hF
    refine vj_aload_n G (p9 := 0) d_S_rulesHidden_75 rfl rfl ?_
    refine gfC_S_42 G d_S_rulesHidden_76 ?_
    obtain ⟨r3, M3, e3, hF⟩ := bnd_some hF
    refine vj_callV0 G (ct_U_least (gx_ij G) n   e3) lkC_3 clC_9 rfl q_1011 cq_U_least rfl (by decide) (by decide) (Nat.le_of_ble_eq_true rfl) d_S_rulesHidden_79 rfl (fun hr3 => ?_)
    refine vj_aload_n G (p9 := 0) d_S_rulesHidden_82 rfl rfl ?_
    refine gfC_S_42 G d_S_rulesHidden_83 ?_
    refine gfC_S_91 G d_S_rulesHidden_86 ?_
    refine vj_iload_n G (p9 := 2) d_S_rulesHidden_89 rfl rfl ?_
    obtain ⟨c4, hF⟩ := ck_some hF
    refine vj_iald G (x := x2) lkC_45 (by decide) c4 d_S_rulesHidden_90 ?_
    refine vj_mr (fun hM5 => ?_)
    refine vj_iload_n G (p9 := 1) d_S_rulesHidden_91 rfl rfl ?_
    refine vj_icmp_ne G (tgt := 99) d_S_rulesHidden_92 (by decide) (mr_a hM5 lkC_45) hx1 (fun c6 => ?_) (fun c6 => ?_)
    · rw [if_pos c6] at hF
      refine vj_iconst G (v := 0) d_S_rulesHidden_99 rfl ?_
      cases hF
      exact vj_zret G0 (Or.inl rfl) d_S_rulesHidden_100
    · rw [if_neg c6] at hF
      refine vj_iconst G (v := 1) d_S_rulesHidden_95 rfl ?_
      refine vj_goto G (tgt := 100) d_S_rulesHidden_96 (by decide) ?_
      cases hF
      exact vj_zret G0 (Or.inr rfl) d_S_rulesHidden_100
  · rw [if_neg c2] at hF
    refine vj_aload_n G (p9 := 0) d_S_rulesHidden_29 rfl rfl ?_
    refine gfC_S_38 G d_S_rulesHidden_30 ?_
    refine gfC_S_203 G d_S_rulesHidden_33 ?_
    refine vj_iload G (p9 := 5) d_S_rulesHidden_36 rfl ?_
    obtain ⟨c7, hF⟩ := ck_some hF
    refine vj_iald G (x := x5) lkC_22 (by decide) c7 d_S_rulesHidden_38 ?_
    refine vj_mr (fun hM8 => ?_)
    refine vj_iload_n G (p9 := 3) d_S_rulesHidden_39 rfl rfl ?_
    refine vj_icmp_ge G (tgt := 69) d_S_rulesHidden_40 (by decide) (mr_a hM8 lkC_22) hx3 (fun c9 => ?_) (fun c9 => ?_)
    · rw [if_pos c9] at hF
      exact wk_S_rulesHidden_69 G0 n k17 hk17 x1 x2 x3 x4 x5 hx1 hx2 hx3 hx4 hx5 _ hF
    · rw [if_neg c9] at hF
      refine vj_aload_n G (p9 := 0) d_S_rulesHidden_43 rfl rfl ?_
      refine gfC_S_38 G d_S_rulesHidden_44 ?_
      refine gfC_S_182 G d_S_rulesHidden_47 ?_
      refine vj_iload G (p9 := 5) d_S_rulesHidden_50 rfl ?_
      obtain ⟨c10, hF⟩ := ck_some hF
      refine vj_iald G (x := x5) lkC_25 (by decide) c10 d_S_rulesHidden_52 ?_
      refine vj_mr (fun hM11 => ?_)
      refine vj_iload G (p9 := 4) d_S_rulesHidden_53 rfl ?_
      refine vj_icmp_eq G (tgt := 69) d_S_rulesHidden_55 (by decide) (mr_a hM11 lkC_25) hx4 (fun c12 => ?_) (fun c12 => ?_)
      · rw [if_pos c12] at hF
        exact wk_S_rulesHidden_69 G0 n k17 hk17 x1 x2 x3 x4 x5 hx1 hx2 hx3 hx4 hx5 _ hF
      · rw [if_neg c12] at hF
        refine vj_aload_n G (p9 := 0) d_S_rulesHidden_58 rfl rfl ?_
        refine gfC_S_42 G d_S_rulesHidden_59 ?_
        refine vj_iload G (p9 := 5) d_S_rulesHidden_62 rfl ?_
        refine vj_iload G (p9 := 4) d_S_rulesHidden_64 rfl ?_
        obtain ⟨r13, M13, e13, hF⟩ := bnd_some hF
        refine vj_callV0 G (ct_U_suppose (gx_ij G) n x5 x4 hx5 hx4 e13) lkC_3 clC_9 rfl q_1059 cq_U_suppose rfl (by decide) (by decide) (Nat.le_of_ble_eq_true rfl) d_S_rulesHidden_66 rfl (fun hr13 => ?_)
        exact wk_S_rulesHidden_69 G0 n k17 hk17 x1 x2 x3 x4 x5 hx1 hx2 hx3 hx4 hx5 _ hF
set_option maxHeartbeats 4000000 in
set_option maxRecDepth 100000 in
theorem wl_S_rulesHidden_17 {w : Wd} {X : Cx} {r : Int} {M9 : Mm} (G0 : Gx LC w X "WhoRules$Search" b_S_rulesHidden 6 5 125 (some .boolean)) (n : Nat) : ∀ (f : Nat) (x1 x2 x3 x4 x5 : Int) (hx1 : inR x1) (hx2 : inR x2) (hx3 : inR x3) (hx4 : inR x4) (hx5 : inR x5) (M : Mm), lp_S_rulesHidden_17 n f x1 x2 x3 x4 x5 M = some (r, M9) → VJ LC w X 6 3 r M9 M [(0, .ref (wa w 4)), (1, .int (i32 x1)), (2, .int (i32 x2)), (3, .int (i32 x3)), (4, .int (i32 x4)), (5, .int (i32 x5))] [] 17 := by
  intro f
  induction f with
  | zero => intro x1 x2 x3 x4 x5 hx1 hx2 hx3 hx4 hx5 M hF; cases hF
  | succ f ih => intro x1 x2 x3 x4 x5 hx1 hx2 hx3 hx4 hx5 M hF; exact wk_S_rulesHidden_17 G0 n (lp_S_rulesHidden_17 n f) ih x1 x2 x3 x4 x5 hx1 hx2 hx3 hx4 hx5 M hF
set_option maxHeartbeats 4000000 in
set_option maxRecDepth 100000 in
theorem ct_S_rulesHidden {w : Wd} (hij : ij LC w) (n : Nat) (x1 x2 x3 x4 : Int) (hx1 : inR x1) (hx2 : inR x2) (hx3 : inR x3) (hx4 : inR x4) {M : Mm} {r : Int} {M9 : Mm} (hF : f_S_rulesHidden n x1 x2 x3 x4 M = some (r, M9)) : Ct LC w y_S_rulesHidden b_S_rulesHidden 6 (some .boolean) 5 125 3 [.ref (wa w 4), .int (i32 x1), .int (i32 x2), .int (i32 x3), .int (i32 x4)] M r M9 := by
  refine Ct.of hij KstC (by decide +kernel) (Nat.le_of_ble_eq_true rfl) (fun X G0 => ?_)
  have G := G0.1
  show VJ LC w X 6 3 r M9 M [(0, .ref (wa w 4)), (1, .int (i32 x1)), (2, .int (i32 x2)), (3, .int (i32 x3)), (4, .int (i32 x4))] [] 0
  unfold f_S_rulesHidden at hF
  refine vj_aload_n G (p9 := 0) d_S_rulesHidden_0 rfl rfl ?_
  refine gfC_S_42 G d_S_rulesHidden_1 ?_
  refine vj_aload_n G (p9 := 0) d_S_rulesHidden_4 rfl rfl ?_
  refine gfC_S_38 G d_S_rulesHidden_5 ?_
  refine gfC_S_122 G d_S_rulesHidden_8 ?_
  refine vj_mr (fun hM1 => ?_)
  obtain ⟨r2, M2, e2, hF⟩ := bnd_some hF
  refine vj_callV0 G (ct_U_look (gx_ij G) n (M 1 0) (mr_o hM1 lkC_1 flC_7_0) e2) lkC_3 clC_9 rfl q_1010 cq_U_look rfl (by decide) (by decide) (Nat.le_of_ble_eq_true rfl) d_S_rulesHidden_11 rfl (fun hr2 => ?_)
  refine vj_iconst G (v := 0) d_S_rulesHidden_14 rfl ?_
  refine vj_istore G (lv2 := [(5, .int (i32 0)), (0, .ref (wa w 4)), (1, .int (i32 x1)), (2, .int (i32 x2)), (3, .int (i32 x3)), (4, .int (i32 x4))]) d_S_rulesHidden_15 (by decide) rfl ?_
  refine vj_sub [1, 2, 3, 4, 5, 0] rfl ?_
  exact wl_S_rulesHidden_17 G0 n  n x1 x2 x3 x4 0 hx1 hx2 hx3 hx4 ic_0 _ hF
set_option maxHeartbeats 4000000 in
set_option maxRecDepth 100000 in
theorem wk_W_may_66 {w : Wd} {X : Cx} {r : Int} {M9 : Mm} (G0 : Gx LC w X "WhoRules" b_W_may 5 6 150 (some .int)) (n : Nat) (s1 s2 s3 s4 : Int) (hs1 : inR s1) (hs2 : inR s2) (hs3 : inR s3) (hs4 : inR s4) (M : Mm) (hF : f_W_may_66 n s1 s2 s3 s4 M = some (r, M9)) : VJ LC w X 5 1 r M9 M [] [.int (i32 s4), .int (i32 s3), .int (i32 s2), .int (i32 s1), .ref (wa w 4)] 66 := by
  have G := G0.1
  unfold f_W_may_66 at hF
  obtain ⟨r1, M1, e1, hF⟩ := bnd_some hF
  refine vj_callV3 G (ct_S_rulesHidden (gx_ij G) n s1 s2 s3 s4 hs1 hs2 hs3 hs4 e1) lkC_4 clC_10 rfl q_1094 cq_S_rulesHidden rfl (by decide) (by decide) (Nat.le_of_ble_eq_true rfl) d_W_may_66 rfl (fun hr1 => ?_)
  refine vj_if_eq G (tgt := 76) d_W_may_69 (by decide) (ir_b hr1) (fun c2 => ?_) (fun c2 => ?_)
  · rw [if_pos c2] at hF
    refine vj_iconst G (v := 0) d_W_may_76 rfl ?_
    cases hF
    exact vj_iret G0 ic_0 d_W_may_77
  · rw [if_neg c2] at hF
    refine vj_iconst G (v := 1) d_W_may_72 rfl ?_
    refine vj_goto G (tgt := 77) d_W_may_73 (by decide) ?_
    cases hF
    exact vj_iret G0 ic_1 d_W_may_77
set_option maxHeartbeats 4000000 in
set_option maxRecDepth 100000 in
theorem ct_W_may {w : Wd} (hij : ij LC w) (n : Nat) (x1 x2 x3 x4 : Int) (hx1 : inR x1) (hx2 : inR x2) (hx3 : inR x3) (hx4 : inR x4) {M : Mm} {r : Int} {M9 : Mm} (hF : f_W_may n x1 x2 x3 x4 M = some (r, M9)) : Ct LC w y_W_may b_W_may 5 (some .int) 6 150 1 [.ref (wa w 0), .int (i32 x1), .int (i32 x2), .int (i32 x3), .int (i32 x4)] M r M9 := by
  refine Ct.of hij KstC (by decide +kernel) (Nat.le_of_ble_eq_true rfl) (fun X G0 => ?_)
  have G := G0.1
  show VJ LC w X 5 1 r M9 M [(0, .ref (wa w 0)), (1, .int (i32 x1)), (2, .int (i32 x2)), (3, .int (i32 x3)), (4, .int (i32 x4))] [] 0
  unfold f_W_may at hF
  refine vj_aload_n G (p9 := 0) d_W_may_0 rfl rfl ?_
  refine gfC_W_18 G d_W_may_1 ?_
  refine vj_iload_n G (p9 := 1) d_W_may_4 rfl rfl ?_
  obtain ⟨r1, M1, e1, hF⟩ := bnd_some hF
  refine vj_callV3 G (ct_R_isRuler (gx_ij G) n x1 hx1 e1) lkC_1 clC_7 rfl q_1031 cq_R_isRuler rfl (by decide) (by decide) (Nat.le_of_ble_eq_true rfl) d_W_may_5 rfl (fun hr1 => ?_)
  refine vj_if_eq G (tgt := 33) d_W_may_8 (by decide) (ir_b hr1) (fun c2 => ?_) (fun c2 => ?_)
  · rw [if_pos c2] at hF
    refine vj_iconst G (v := (-1)) d_W_may_33 rfl ?_
    cases hF
    exact vj_iret G0 ic_m1 d_W_may_34
  · rw [if_neg c2] at hF
    refine vj_aload_n G (p9 := 0) d_W_may_11 rfl rfl ?_
    refine gfC_W_18 G d_W_may_12 ?_
    refine vj_iload_n G (p9 := 2) d_W_may_15 rfl rfl ?_
    obtain ⟨r3, M3, e3, hF⟩ := bnd_some hF
    refine vj_callV3 G (ct_R_isFirm (gx_ij G) n x2 hx2 e3) lkC_1 clC_7 rfl q_592 cq_R_isFirm rfl (by decide) (by decide) (Nat.le_of_ble_eq_true rfl) d_W_may_16 rfl (fun hr3 => ?_)
    refine vj_if_eq G (tgt := 33) d_W_may_19 (by decide) (ir_b hr3) (fun c4 => ?_) (fun c4 => ?_)
    · rw [if_pos c4] at hF
      refine vj_iconst G (v := (-1)) d_W_may_33 rfl ?_
      cases hF
      exact vj_iret G0 ic_m1 d_W_may_34
    · rw [if_neg c4] at hF
      refine vj_iload G (p9 := 4) d_W_may_22 rfl ?_
      refine vj_if_lt G (tgt := 33) d_W_may_24 (by decide) hx4 (fun c5 => ?_) (fun c5 => ?_)
      · rw [if_pos c5] at hF
        refine vj_iconst G (v := (-1)) d_W_may_33 rfl ?_
        cases hF
        exact vj_iret G0 ic_m1 d_W_may_34
      · rw [if_neg c5] at hF
        refine vj_iload G (p9 := 4) d_W_may_27 rfl ?_
        refine vj_iconst G (v := 1) d_W_may_29 rfl ?_
        refine vj_icmp_le G (tgt := 35) d_W_may_30 (by decide) hx4 ic_1 (fun c6 => ?_) (fun c6 => ?_)
        · rw [if_pos c6] at hF
          refine vj_iload_n G (p9 := 3) d_W_may_35 rfl rfl ?_
          refine vj_if_lt G (tgt := 45) d_W_may_36 (by decide) hx3 (fun c7 => ?_) (fun c7 => ?_)
          · rw [if_pos c7] at hF
            refine vj_bipush G (v := (-2)) d_W_may_45 rfl ?_
            cases hF
            exact vj_iret G0 ic_m2 d_W_may_47
          · rw [if_neg c7] at hF
            refine vj_iload_n G (p9 := 3) d_W_may_39 rfl rfl ?_
            refine vj_bipush G (v := 12) d_W_may_40 rfl ?_
            refine vj_icmp_le G (tgt := 48) d_W_may_42 (by decide) hx3 ic_12 (fun c8 => ?_) (fun c8 => ?_)
            · rw [if_pos c8] at hF
              refine vj_aload_n G (p9 := 0) d_W_may_48 rfl rfl ?_
              refine gfC_W_43 G d_W_may_49 ?_
              refine vj_iload_n G (p9 := 1) d_W_may_52 rfl rfl ?_
              refine vj_iload_n G (p9 := 2) d_W_may_53 rfl rfl ?_
              refine vj_iload_n G (p9 := 3) d_W_may_54 rfl rfl ?_
              refine vj_iload G (p9 := 4) d_W_may_55 rfl ?_
              refine vj_if_ne G (tgt := 64) d_W_may_57 (by decide) hx4 (fun c9 => ?_) (fun c9 => ?_)
              · rw [if_pos c9] at hF
                refine vj_bipush G (v := (-5)) d_W_may_64 rfl ?_
                refine vj_sub [] rfl ?_
                exact wk_W_may_66 G0 n  x1 x2 x3 (-5) hx1 hx2 hx3 ic_m5 _ hF
              · rw [if_neg c9] at hF
                refine vj_iload_n G (p9 := 1) d_W_may_60 rfl rfl ?_
                refine vj_goto G (tgt := 66) d_W_may_61 (by decide) ?_
                refine vj_sub [] rfl ?_
                exact wk_W_may_66 G0 n  x1 x2 x3 x1 hx1 hx2 hx3 hx1 _ hF
            · rw [if_neg c8] at hF
              refine vj_bipush G (v := (-2)) d_W_may_45 rfl ?_
              cases hF
              exact vj_iret G0 ic_m2 d_W_may_47
        · rw [if_neg c6] at hF
          refine vj_iconst G (v := (-1)) d_W_may_33 rfl ?_
          cases hF
          exact vj_iret G0 ic_m1 d_W_may_34
set_option maxHeartbeats 4000000 in
set_option maxRecDepth 100000 in
theorem ct_W_motion {w : Wd} (hij : ij LC w) (n : Nat) (x1 x2 : Int) (hx1 : inR x1) (hx2 : inR x2) {M : Mm} {r : Int} {M9 : Mm} (hF : f_W_motion n x1 x2 M = some (r, M9)) : Ct LC w y_W_motion b_W_motion 3 (some .int) 1 21 1 [.ref (wa w 0), .int (i32 x1), .int (i32 x2)] M r M9 := by
  refine Ct.of hij KstC (by decide +kernel) (Nat.le_of_ble_eq_true rfl) (fun X G0 => ?_)
  have G := G0.1
  show VJ LC w X 3 1 r M9 M [(0, .ref (wa w 0)), (1, .int (i32 x1)), (2, .int (i32 x2))] [] 0
  unfold f_W_motion at hF
  refine vj_aload_n G (p9 := 0) d_W_motion_0 rfl rfl ?_
  refine gfC_W_18 G d_W_motion_1 ?_
  refine vj_iload_n G (p9 := 1) d_W_motion_4 rfl rfl ?_
  obtain ⟨r1, M1, e1, hF⟩ := bnd_some hF
  refine vj_callV3 G (ct_R_isSet (gx_ij G) n x1 hx1 e1) lkC_1 clC_7 rfl q_852 cq_R_isSet rfl (by decide) (by decide) (Nat.le_of_ble_eq_true rfl) d_W_motion_5 rfl (fun hr1 => ?_)
  refine vj_if_eq G (tgt := 28) d_W_motion_8 (by decide) (ir_b hr1) (fun c2 => ?_) (fun c2 => ?_)
  · rw [if_pos c2] at hF
    refine vj_bipush G (v := (-2)) d_W_motion_28 rfl ?_
    cases hF
    exact vj_iret G0 ic_m2 d_W_motion_30
  · rw [if_neg c2] at hF
    refine vj_aload_n G (p9 := 0) d_W_motion_11 rfl rfl ?_
    refine gfC_W_18 G d_W_motion_12 ?_
    refine vj_iload_n G (p9 := 2) d_W_motion_15 rfl rfl ?_
    obtain ⟨r3, M3, e3, hF⟩ := bnd_some hF
    refine vj_callV3 G (ct_R_isSet (gx_ij G) n x2 hx2 e3) lkC_1 clC_7 rfl q_852 cq_R_isSet rfl (by decide) (by decide) (Nat.le_of_ble_eq_true rfl) d_W_motion_16 rfl (fun hr3 => ?_)
    refine vj_if_eq G (tgt := 28) d_W_motion_19 (by decide) (ir_b hr3) (fun c4 => ?_) (fun c4 => ?_)
    · rw [if_pos c4] at hF
      refine vj_bipush G (v := (-2)) d_W_motion_28 rfl ?_
      cases hF
      exact vj_iret G0 ic_m2 d_W_motion_30
    · rw [if_neg c4] at hF
      refine vj_iload_n G (p9 := 1) d_W_motion_22 rfl rfl ?_
      refine vj_iload_n G (p9 := 2) d_W_motion_23 rfl rfl ?_
      refine vj_iand G d_W_motion_24 ?_
      refine vj_if_eq G (tgt := 31) d_W_motion_25 (by decide) (ir_an _ _) (fun c5 => ?_) (fun c5 => ?_)
      · rw [if_pos c5] at hF
        refine vj_aload_n G (p9 := 0) d_W_motion_31 rfl rfl ?_
        refine gfC_W_258 G d_W_motion_32 ?_
        refine vj_mr (fun hM6 => ?_)
        refine vj_bipush G (v := 30) d_W_motion_35 rfl ?_
        refine vj_icmp_lt G (tgt := 43) d_W_motion_37 (by decide) (mr_o hM6 lkC_0 flC_6_8) ic_30 (fun c7 => ?_) (fun c7 => ?_)
        · rw [if_pos c7] at hF
          refine vj_aload_n G (p9 := 0) d_W_motion_43 rfl rfl ?_
          refine gfC_W_56 G d_W_motion_44 ?_
          refine vj_aload_n G (p9 := 0) d_W_motion_47 rfl rfl ?_
          refine gfC_W_258 G d_W_motion_48 ?_
          refine vj_mr (fun hM8 => ?_)
          refine vj_iload_n G (p9 := 1) d_W_motion_51 rfl rfl ?_
          obtain ⟨c9, hF⟩ := ck_some hF
          refine vj_iast G (x := (M3 0 8)) lkC_11 (by decide) (by decide) (by decide) c9 hx1 d_W_motion_52 ?_
          refine vj_aload_n G (p9 := 0) d_W_motion_53 rfl rfl ?_
          refine gfC_W_59 G d_W_motion_54 ?_
          refine vj_aload_n G (p9 := 0) d_W_motion_57 rfl rfl ?_
          refine gfC_W_258 G d_W_motion_58 ?_
          refine vj_mr (fun hM10 => ?_)
          refine vj_iload_n G (p9 := 2) d_W_motion_61 rfl rfl ?_
          obtain ⟨c11, hF⟩ := ck_some hF
          refine vj_iast G (x := ((mset M3 11 (M3 0 8).toNat x1) 0 8)) lkC_12 (by decide) (by decide) (by decide) c11 hx2 d_W_motion_62 ?_
          refine vj_aload_n G (p9 := 0) d_W_motion_63 rfl rfl ?_
          refine vj_dup G d_W_motion_64 rfl ?_
          refine gfC_W_258 G d_W_motion_65 ?_
          refine vj_mr (fun hM12 => ?_)
          refine vj_iconst G (v := 1) d_W_motion_68 rfl ?_
          refine vj_iadd G d_W_motion_69 ?_
          refine pfC_W_258 G (ir_w _) d_W_motion_70 ?_
          refine vj_aload_n G (p9 := 0) d_W_motion_73 rfl rfl ?_
          refine gfC_W_258 G d_W_motion_74 ?_
          refine vj_mr (fun hM13 => ?_)
          refine vj_iconst G (v := 1) d_W_motion_77 rfl ?_
          refine vj_isub G d_W_motion_78 ?_
          cases hF
          exact vj_iret G0 (ir_w _) d_W_motion_79
        · rw [if_neg c7] at hF
          refine vj_bipush G (v := (-4)) d_W_motion_40 rfl ?_
          cases hF
          exact vj_iret G0 ic_m4 d_W_motion_42
      · rw [if_neg c5] at hF
        refine vj_bipush G (v := (-2)) d_W_motion_28 rfl ?_
        cases hF
        exact vj_iret G0 ic_m2 d_W_motion_30
set_option maxHeartbeats 4000000 in
set_option maxRecDepth 100000 in
theorem wk_W_timesAlike_5 {w : Wd} {X : Cx} {r : Int} {M9 : Mm} (G0 : Gx LC w X "WhoRules" b_W_timesAlike 5 0 0 (some .int)) (n : Nat) (k5 : Int → Int → Int → Int → Mm → Rr) (hk5 : ∀ (x1 x2 x3 x4 : Int) (hx1 : inR x1) (hx2 : inR x2) (hx3 : inR x3) (hx4 : inR x4) (M : Mm), k5 x1 x2 x3 x4 M = some (r, M9) → VJ LC w X 5 1 r M9 M [(0, .ref (wa w 0)), (1, .int (i32 x1)), (2, .int (i32 x2)), (3, .int (i32 x3)), (4, .int (i32 x4))] [] 5) (x1 x2 x3 x4 : Int) (hx1 : inR x1) (hx2 : inR x2) (hx3 : inR x3) (hx4 : inR x4) (M : Mm) (hF : f_W_timesAlike_5 n k5 x1 x2 x3 x4 M = some (r, M9)) : VJ LC w X 5 1 r M9 M [(0, .ref (wa w 0)), (1, .int (i32 x1)), (2, .int (i32 x2)), (3, .int (i32 x3)), (4, .int (i32 x4))] [] 5 := by
  have G := G0.1
  unfold f_W_timesAlike_5 at hF
  refine vj_iload G (p9 := 4) d_W_timesAlike_5 rfl ?_
  refine vj_aload_n G (p9 := 0) d_W_timesAlike_7 rfl rfl ?_
  refine gfC_W_258 G d_W_timesAlike_8 ?_
  refine vj_mr (fun hM1 => ?_)
  refine vj_icmp_ge G (tgt := 68) d_W_timesAlike_11 (by decide) hx4 (mr_o hM1 lkC_0 flC_6_8) (fun c2 => ?_) (fun c2 => ?_)
  · rw [if_pos c2] at hF
    refine vj_iload_n G (p9 := 3) d_W_timesAlike_68 rfl rfl ?_
    cases hF
    exact vj_iret G0 hx3 d_W_timesAlike_69
  · rw [if_neg c2] at hF
    refine vj_iload_n G (p9 := 3) d_W_timesAlike_14 rfl rfl ?_
    refine vj_aload_n G (p9 := 0) d_W_timesAlike_15 rfl rfl ?_
    refine gfC_W_56 G d_W_timesAlike_16 ?_
    refine vj_iload G (p9 := 4) d_W_timesAlike_19 rfl ?_
    obtain ⟨c3, hF⟩ := ck_some hF
    refine vj_iald G (x := x4) lkC_11 (by decide) c3 d_W_timesAlike_21 ?_
    refine vj_mr (fun hM4 => ?_)
    refine vj_iload_n G (p9 := 1) d_W_timesAlike_22 rfl rfl ?_
    refine vj_ishr G d_W_timesAlike_23 ?_
    refine vj_aload_n G (p9 := 0) d_W_timesAlike_24 rfl rfl ?_
    refine gfC_W_56 G d_W_timesAlike_25 ?_
    refine vj_iload G (p9 := 4) d_W_timesAlike_28 rfl ?_
    obtain ⟨c5, hF⟩ := ck_some hF
    refine vj_iald G (x := x4) lkC_11 (by decide) c5 d_W_timesAlike_30 ?_
    refine vj_iload_n G (p9 := 2) d_W_timesAlike_31 rfl rfl ?_
    refine vj_ishr G d_W_timesAlike_32 ?_
    refine vj_iand G d_W_timesAlike_33 ?_
    refine vj_iconst G (v := 1) d_W_timesAlike_34 rfl ?_
    refine vj_iand G d_W_timesAlike_35 ?_
    refine vj_iadd G d_W_timesAlike_36 ?_
    refine vj_istore_n G (lv2 := [(3, .int (i32 (w32 (x3 + (ian (ian (isr (M 11 x4.toNat) x1) (isr (M 11 x4.toNat) x2)) 1))))), (0, .ref (wa w 0)), (1, .int (i32 x1)), (2, .int (i32 x2)), (4, .int (i32 x4))]) d_W_timesAlike_37 rfl (by decide) rfl ?_
    refine vj_iload_n G (p9 := 0) d_W_timesAlike_38 rfl rfl ?_
    refine vj_aload_n G (p9 := 1) d_W_timesAlike_39 rfl rfl ?_
    refine gfC_W_59 G d_W_timesAlike_40 ?_
    refine vj_iload G (p9 := 4) d_W_timesAlike_43 rfl ?_
    obtain ⟨c6, hF⟩ := ck_some hF
    refine vj_iald G (x := x4) lkC_12 (by decide) c6 d_W_timesAlike_45 ?_
    refine vj_iload_n G (p9 := 2) d_W_timesAlike_46 rfl rfl ?_
    refine vj_ishr G d_W_timesAlike_47 ?_
    refine vj_aload_n G (p9 := 1) d_W_timesAlike_48 rfl rfl ?_
    refine gfC_W_59 G d_W_timesAlike_49 ?_
    refine vj_iload G (p9 := 4) d_W_timesAlike_52 rfl ?_
    obtain ⟨c7, hF⟩ := ck_some hF
    refine vj_iald G (x := x4) lkC_12 (by decide) c7 d_W_timesAlike_54 ?_
    refine vj_iload_n G (p9 := 3) d_W_timesAlike_55 rfl rfl ?_
    refine vj_ishr G d_W_timesAlike_56 ?_
    refine vj_iand G d_W_timesAlike_57 ?_
    refine vj_iconst G (v := 1) d_W_timesAlike_58 rfl ?_
    refine vj_iand G d_W_timesAlike_59 ?_
    refine vj_iadd G d_W_timesAlike_60 ?_
    refine vj_istore_n G (lv2 := [(3, .int (i32 (w32 ((w32 (x3 + (ian (ian (isr (M 11 x4.toNat) x1) (isr (M 11 x4.toNat) x2)) 1))) + (ian (ian (isr (M 12 x4.toNat) x1) (isr (M 12 x4.toNat) x2)) 1))))), (0, .ref (wa w 0)), (1, .int (i32 x1)), (2, .int (i32 x2)), (4, .int (i32 x4))]) d_W_timesAlike_61 rfl (by decide) rfl ?_
    refine vj_iinc G (p9 := 4) (n := 1) (lv2 := [(4, .int (i32 (w32 (x4 + 1)))), (3, .int (i32 (w32 ((w32 (x3 + (ian (ian (isr (M 11 x4.toNat) x1) (isr (M 11 x4.toNat) x2)) 1))) + (ian (ian (isr (M 12 x4.toNat) x1) (isr (M 12 x4.toNat) x2)) 1))))), (0, .ref (wa w 0)), (1, .int (i32 x1)), (2, .int (i32 x2))]) d_W_timesAlike_62 rfl (by decide) rfl ?_
    refine vj_goto G (tgt := 5) d_W_timesAlike_65 (by decide) ?_
    refine vj_sub [2, 3, 4, 1, 0] rfl ?_
    exact hk5 x1 x2 (w32 ((w32 (x3 + (ian (ian (isr (M 11 x4.toNat) x1) (isr (M 11 x4.toNat) x2)) 1))) + (ian (ian (isr (M 12 x4.toNat) x1) (isr (M 12 x4.toNat) x2)) 1))) (w32 (x4 + 1)) hx1 hx2 (ir_w _) (ir_w _) _ hF
set_option maxHeartbeats 4000000 in
set_option maxRecDepth 100000 in
theorem wl_W_timesAlike_5 {w : Wd} {X : Cx} {r : Int} {M9 : Mm} (G0 : Gx LC w X "WhoRules" b_W_timesAlike 5 0 0 (some .int)) (n : Nat) : ∀ (f : Nat) (x1 x2 x3 x4 : Int) (hx1 : inR x1) (hx2 : inR x2) (hx3 : inR x3) (hx4 : inR x4) (M : Mm), lp_W_timesAlike_5 n f x1 x2 x3 x4 M = some (r, M9) → VJ LC w X 5 1 r M9 M [(0, .ref (wa w 0)), (1, .int (i32 x1)), (2, .int (i32 x2)), (3, .int (i32 x3)), (4, .int (i32 x4))] [] 5 := by
  intro f
  induction f with
  | zero => intro x1 x2 x3 x4 hx1 hx2 hx3 hx4 M hF; cases hF
  | succ f ih => intro x1 x2 x3 x4 hx1 hx2 hx3 hx4 M hF; exact wk_W_timesAlike_5 G0 n (lp_W_timesAlike_5 n f) ih x1 x2 x3 x4 hx1 hx2 hx3 hx4 M hF
set_option maxHeartbeats 4000000 in
set_option maxRecDepth 100000 in
theorem ct_W_timesAlike {w : Wd} (hij : ij LC w) (n : Nat) (x1 x2 : Int) (hx1 : inR x1) (hx2 : inR x2) {M : Mm} {r : Int} {M9 : Mm} (hF : f_W_timesAlike n x1 x2 M = some (r, M9)) : Ct LC w y_W_timesAlike b_W_timesAlike 5 (some .int) 0 0 1 [.ref (wa w 0), .int (i32 x1), .int (i32 x2)] M r M9 := by
  refine Ct.of hij KstC (by decide +kernel) (Nat.le_of_ble_eq_true rfl) (fun X G0 => ?_)
  have G := G0.1
  show VJ LC w X 5 1 r M9 M [(0, .ref (wa w 0)), (1, .int (i32 x1)), (2, .int (i32 x2))] [] 0
  unfold f_W_timesAlike at hF
  refine vj_iconst G (v := 0) d_W_timesAlike_0 rfl ?_
  refine vj_istore_n G (lv2 := [(3, .int (i32 0)), (0, .ref (wa w 0)), (1, .int (i32 x1)), (2, .int (i32 x2))]) d_W_timesAlike_1 rfl (by decide) rfl ?_
  refine vj_iconst G (v := 0) d_W_timesAlike_2 rfl ?_
  refine vj_istore G (lv2 := [(4, .int (i32 0)), (3, .int (i32 0)), (0, .ref (wa w 0)), (1, .int (i32 x1)), (2, .int (i32 x2))]) d_W_timesAlike_3 (by decide) rfl ?_
  refine vj_sub [2, 3, 4, 1, 0] rfl ?_
  exact wl_W_timesAlike_5 G0 n  n x1 x2 0 0 hx1 hx2 ic_0 ic_0 _ hF
set_option maxHeartbeats 4000000 in
set_option maxRecDepth 100000 in
theorem wk_W_timesApart_5 {w : Wd} {X : Cx} {r : Int} {M9 : Mm} (G0 : Gx LC w X "WhoRules" b_W_timesApart 5 0 0 (some .int)) (n : Nat) (k5 : Int → Int → Int → Int → Mm → Rr) (hk5 : ∀ (x1 x2 x3 x4 : Int) (hx1 : inR x1) (hx2 : inR x2) (hx3 : inR x3) (hx4 : inR x4) (M : Mm), k5 x1 x2 x3 x4 M = some (r, M9) → VJ LC w X 5 1 r M9 M [(0, .ref (wa w 0)), (1, .int (i32 x1)), (2, .int (i32 x2)), (3, .int (i32 x3)), (4, .int (i32 x4))] [] 5) (x1 x2 x3 x4 : Int) (hx1 : inR x1) (hx2 : inR x2) (hx3 : inR x3) (hx4 : inR x4) (M : Mm) (hF : f_W_timesApart_5 n k5 x1 x2 x3 x4 M = some (r, M9)) : VJ LC w X 5 1 r M9 M [(0, .ref (wa w 0)), (1, .int (i32 x1)), (2, .int (i32 x2)), (3, .int (i32 x3)), (4, .int (i32 x4))] [] 5 := by
  have G := G0.1
  unfold f_W_timesApart_5 at hF
  refine vj_iload G (p9 := 4) d_W_timesApart_5 rfl ?_
  refine vj_aload_n G (p9 := 0) d_W_timesApart_7 rfl rfl ?_
  refine gfC_W_258 G d_W_timesApart_8 ?_
  refine vj_mr (fun hM1 => ?_)
  refine vj_icmp_ge G (tgt := 68) d_W_timesApart_11 (by decide) hx4 (mr_o hM1 lkC_0 flC_6_8) (fun c2 => ?_) (fun c2 => ?_)
  · rw [if_pos c2] at hF
    refine vj_iload_n G (p9 := 3) d_W_timesApart_68 rfl rfl ?_
    cases hF
    exact vj_iret G0 hx3 d_W_timesApart_69
  · rw [if_neg c2] at hF
    refine vj_iload_n G (p9 := 3) d_W_timesApart_14 rfl rfl ?_
    refine vj_aload_n G (p9 := 0) d_W_timesApart_15 rfl rfl ?_
    refine gfC_W_56 G d_W_timesApart_16 ?_
    refine vj_iload G (p9 := 4) d_W_timesApart_19 rfl ?_
    obtain ⟨c3, hF⟩ := ck_some hF
    refine vj_iald G (x := x4) lkC_11 (by decide) c3 d_W_timesApart_21 ?_
    refine vj_mr (fun hM4 => ?_)
    refine vj_iload_n G (p9 := 1) d_W_timesApart_22 rfl rfl ?_
    refine vj_ishr G d_W_timesApart_23 ?_
    refine vj_aload_n G (p9 := 0) d_W_timesApart_24 rfl rfl ?_
    refine gfC_W_59 G d_W_timesApart_25 ?_
    refine vj_iload G (p9 := 4) d_W_timesApart_28 rfl ?_
    obtain ⟨c5, hF⟩ := ck_some hF
    refine vj_iald G (x := x4) lkC_12 (by decide) c5 d_W_timesApart_30 ?_
    refine vj_iload_n G (p9 := 2) d_W_timesApart_31 rfl rfl ?_
    refine vj_ishr G d_W_timesApart_32 ?_
    refine vj_iand G d_W_timesApart_33 ?_
    refine vj_iconst G (v := 1) d_W_timesApart_34 rfl ?_
    refine vj_iand G d_W_timesApart_35 ?_
    refine vj_iadd G d_W_timesApart_36 ?_
    refine vj_istore_n G (lv2 := [(3, .int (i32 (w32 (x3 + (ian (ian (isr (M 11 x4.toNat) x1) (isr (M 12 x4.toNat) x2)) 1))))), (0, .ref (wa w 0)), (1, .int (i32 x1)), (2, .int (i32 x2)), (4, .int (i32 x4))]) d_W_timesApart_37 rfl (by decide) rfl ?_
    refine vj_iload_n G (p9 := 0) d_W_timesApart_38 rfl rfl ?_
    refine vj_aload_n G (p9 := 1) d_W_timesApart_39 rfl rfl ?_
    refine gfC_W_59 G d_W_timesApart_40 ?_
    refine vj_iload G (p9 := 4) d_W_timesApart_43 rfl ?_
    obtain ⟨c6, hF⟩ := ck_some hF
    refine vj_iald G (x := x4) lkC_12 (by decide) c6 d_W_timesApart_45 ?_
    refine vj_iload_n G (p9 := 2) d_W_timesApart_46 rfl rfl ?_
    refine vj_ishr G d_W_timesApart_47 ?_
    refine vj_aload_n G (p9 := 1) d_W_timesApart_48 rfl rfl ?_
    refine gfC_W_56 G d_W_timesApart_49 ?_
    refine vj_iload G (p9 := 4) d_W_timesApart_52 rfl ?_
    obtain ⟨c7, hF⟩ := ck_some hF
    refine vj_iald G (x := x4) lkC_11 (by decide) c7 d_W_timesApart_54 ?_
    refine vj_iload_n G (p9 := 3) d_W_timesApart_55 rfl rfl ?_
    refine vj_ishr G d_W_timesApart_56 ?_
    refine vj_iand G d_W_timesApart_57 ?_
    refine vj_iconst G (v := 1) d_W_timesApart_58 rfl ?_
    refine vj_iand G d_W_timesApart_59 ?_
    refine vj_iadd G d_W_timesApart_60 ?_
    refine vj_istore_n G (lv2 := [(3, .int (i32 (w32 ((w32 (x3 + (ian (ian (isr (M 11 x4.toNat) x1) (isr (M 12 x4.toNat) x2)) 1))) + (ian (ian (isr (M 12 x4.toNat) x1) (isr (M 11 x4.toNat) x2)) 1))))), (0, .ref (wa w 0)), (1, .int (i32 x1)), (2, .int (i32 x2)), (4, .int (i32 x4))]) d_W_timesApart_61 rfl (by decide) rfl ?_
    refine vj_iinc G (p9 := 4) (n := 1) (lv2 := [(4, .int (i32 (w32 (x4 + 1)))), (3, .int (i32 (w32 ((w32 (x3 + (ian (ian (isr (M 11 x4.toNat) x1) (isr (M 12 x4.toNat) x2)) 1))) + (ian (ian (isr (M 12 x4.toNat) x1) (isr (M 11 x4.toNat) x2)) 1))))), (0, .ref (wa w 0)), (1, .int (i32 x1)), (2, .int (i32 x2))]) d_W_timesApart_62 rfl (by decide) rfl ?_
    refine vj_goto G (tgt := 5) d_W_timesApart_65 (by decide) ?_
    refine vj_sub [2, 3, 4, 1, 0] rfl ?_
    exact hk5 x1 x2 (w32 ((w32 (x3 + (ian (ian (isr (M 11 x4.toNat) x1) (isr (M 12 x4.toNat) x2)) 1))) + (ian (ian (isr (M 12 x4.toNat) x1) (isr (M 11 x4.toNat) x2)) 1))) (w32 (x4 + 1)) hx1 hx2 (ir_w _) (ir_w _) _ hF
set_option maxHeartbeats 4000000 in
set_option maxRecDepth 100000 in
theorem wl_W_timesApart_5 {w : Wd} {X : Cx} {r : Int} {M9 : Mm} (G0 : Gx LC w X "WhoRules" b_W_timesApart 5 0 0 (some .int)) (n : Nat) : ∀ (f : Nat) (x1 x2 x3 x4 : Int) (hx1 : inR x1) (hx2 : inR x2) (hx3 : inR x3) (hx4 : inR x4) (M : Mm), lp_W_timesApart_5 n f x1 x2 x3 x4 M = some (r, M9) → VJ LC w X 5 1 r M9 M [(0, .ref (wa w 0)), (1, .int (i32 x1)), (2, .int (i32 x2)), (3, .int (i32 x3)), (4, .int (i32 x4))] [] 5 := by
  intro f
  induction f with
  | zero => intro x1 x2 x3 x4 hx1 hx2 hx3 hx4 M hF; cases hF
  | succ f ih => intro x1 x2 x3 x4 hx1 hx2 hx3 hx4 M hF; exact wk_W_timesApart_5 G0 n (lp_W_timesApart_5 n f) ih x1 x2 x3 x4 hx1 hx2 hx3 hx4 M hF
set_option maxHeartbeats 4000000 in
set_option maxRecDepth 100000 in
theorem ct_W_timesApart {w : Wd} (hij : ij LC w) (n : Nat) (x1 x2 : Int) (hx1 : inR x1) (hx2 : inR x2) {M : Mm} {r : Int} {M9 : Mm} (hF : f_W_timesApart n x1 x2 M = some (r, M9)) : Ct LC w y_W_timesApart b_W_timesApart 5 (some .int) 0 0 1 [.ref (wa w 0), .int (i32 x1), .int (i32 x2)] M r M9 := by
  refine Ct.of hij KstC (by decide +kernel) (Nat.le_of_ble_eq_true rfl) (fun X G0 => ?_)
  have G := G0.1
  show VJ LC w X 5 1 r M9 M [(0, .ref (wa w 0)), (1, .int (i32 x1)), (2, .int (i32 x2))] [] 0
  unfold f_W_timesApart at hF
  refine vj_iconst G (v := 0) d_W_timesApart_0 rfl ?_
  refine vj_istore_n G (lv2 := [(3, .int (i32 0)), (0, .ref (wa w 0)), (1, .int (i32 x1)), (2, .int (i32 x2))]) d_W_timesApart_1 rfl (by decide) rfl ?_
  refine vj_iconst G (v := 0) d_W_timesApart_2 rfl ?_
  refine vj_istore G (lv2 := [(4, .int (i32 0)), (3, .int (i32 0)), (0, .ref (wa w 0)), (1, .int (i32 x1)), (2, .int (i32 x2))]) d_W_timesApart_3 (by decide) rfl ?_
  refine vj_sub [2, 3, 4, 1, 0] rfl ?_
  exact wl_W_timesApart_5 G0 n  n x1 x2 0 0 hx1 hx2 ic_0 ic_0 _ hF
set_option maxHeartbeats 4000000 in
set_option maxRecDepth 100000 in
theorem ct_W_alike {w : Wd} (hij : ij LC w) (n : Nat) (x1 x2 x3 : Int) (hx1 : inR x1) (hx2 : inR x2) (hx3 : inR x3) {M : Mm} {r : Int} {M9 : Mm} (hF : f_W_alike n x1 x2 x3 M = some (r, M9)) : Ct LC w y_W_alike b_W_alike 4 (some .int) 1 24 1 [.ref (wa w 0), .int (i32 x1), .int (i32 x2), .int (i32 x3)] M r M9 := by
  refine Ct.of hij KstC (by decide +kernel) (Nat.le_of_ble_eq_true rfl) (fun X G0 => ?_)
  have G := G0.1
  show VJ LC w X 4 1 r M9 M [(0, .ref (wa w 0)), (1, .int (i32 x1)), (2, .int (i32 x2)), (3, .int (i32 x3))] [] 0
  unfold f_W_alike at hF
  refine vj_aload_n G (p9 := 0) d_W_alike_0 rfl rfl ?_
  refine gfC_W_18 G d_W_alike_1 ?_
  refine vj_iload_n G (p9 := 1) d_W_alike_4 rfl rfl ?_
  obtain ⟨r1, M1, e1, hF⟩ := bnd_some hF
  refine vj_callV3 G (ct_R_isHolder (gx_ij G) n x1 hx1 e1) lkC_1 clC_7 rfl q_596 cq_R_isHolder rfl (by decide) (by decide) (Nat.le_of_ble_eq_true rfl) d_W_alike_5 rfl (fun hr1 => ?_)
  refine vj_if_eq G (tgt := 31) d_W_alike_8 (by decide) (ir_b hr1) (fun c2 => ?_) (fun c2 => ?_)
  · rw [if_pos c2] at hF
    refine vj_iconst G (v := (-1)) d_W_alike_31 rfl ?_
    cases hF
    exact vj_iret G0 ic_m1 d_W_alike_32
  · rw [if_neg c2] at hF
    refine vj_aload_n G (p9 := 0) d_W_alike_11 rfl rfl ?_
    refine gfC_W_18 G d_W_alike_12 ?_
    refine vj_iload_n G (p9 := 2) d_W_alike_15 rfl rfl ?_
    obtain ⟨r3, M3, e3, hF⟩ := bnd_some hF
    refine vj_callV3 G (ct_R_isHolder (gx_ij G) n x2 hx2 e3) lkC_1 clC_7 rfl q_596 cq_R_isHolder rfl (by decide) (by decide) (Nat.le_of_ble_eq_true rfl) d_W_alike_16 rfl (fun hr3 => ?_)
    refine vj_if_eq G (tgt := 31) d_W_alike_19 (by decide) (ir_b hr3) (fun c4 => ?_) (fun c4 => ?_)
    · rw [if_pos c4] at hF
      refine vj_iconst G (v := (-1)) d_W_alike_31 rfl ?_
      cases hF
      exact vj_iret G0 ic_m1 d_W_alike_32
    · rw [if_neg c4] at hF
      refine vj_iload_n G (p9 := 3) d_W_alike_22 rfl rfl ?_
      refine vj_if_lt G (tgt := 31) d_W_alike_23 (by decide) hx3 (fun c5 => ?_) (fun c5 => ?_)
      · rw [if_pos c5] at hF
        refine vj_iconst G (v := (-1)) d_W_alike_31 rfl ?_
        cases hF
        exact vj_iret G0 ic_m1 d_W_alike_32
      · rw [if_neg c5] at hF
        refine vj_iload_n G (p9 := 3) d_W_alike_26 rfl rfl ?_
        refine vj_iconst G (v := 1) d_W_alike_27 rfl ?_
        refine vj_icmp_le G (tgt := 33) d_W_alike_28 (by decide) hx3 ic_1 (fun c6 => ?_) (fun c6 => ?_)
        · rw [if_pos c6] at hF
          refine vj_iload_n G (p9 := 1) d_W_alike_33 rfl rfl ?_
          refine vj_iload_n G (p9 := 2) d_W_alike_34 rfl rfl ?_
          refine vj_icmp_ne G (tgt := 41) d_W_alike_35 (by decide) hx1 hx2 (fun c7 => ?_) (fun c7 => ?_)
          · rw [if_pos c7] at hF
            refine vj_iload_n G (p9 := 3) d_W_alike_41 rfl rfl ?_
            refine vj_if_ne G (tgt := 54) d_W_alike_42 (by decide) hx3 (fun c8 => ?_) (fun c8 => ?_)
            · rw [if_pos c8] at hF
              refine vj_aload_n G (p9 := 0) d_W_alike_54 rfl rfl ?_
              refine vj_iload_n G (p9 := 1) d_W_alike_55 rfl rfl ?_
              refine vj_iload_n G (p9 := 2) d_W_alike_56 rfl rfl ?_
              obtain ⟨r9, M9, e9, hF⟩ := bnd_some hF
              refine vj_callV1 G (ct_W_timesApart (gx_ij G) n x1 x2 hx1 hx2 e9) lkC_0 clC_6 rfl q_1110 cq_W_timesApart rfl (by decide) (by decide) (Nat.le_of_ble_eq_true rfl) d_W_alike_57 rfl (fun hr9 => ?_)
              cases hF
              exact vj_iret G0 hr9 d_W_alike_60
            · rw [if_neg c8] at hF
              refine vj_aload_n G (p9 := 0) d_W_alike_45 rfl rfl ?_
              refine vj_iload_n G (p9 := 1) d_W_alike_46 rfl rfl ?_
              refine vj_iload_n G (p9 := 2) d_W_alike_47 rfl rfl ?_
              obtain ⟨r10, M10, e10, hF⟩ := bnd_some hF
              refine vj_callV1 G (ct_W_timesAlike (gx_ij G) n x1 x2 hx1 hx2 e10) lkC_0 clC_6 rfl q_1106 cq_W_timesAlike rfl (by decide) (by decide) (Nat.le_of_ble_eq_true rfl) d_W_alike_48 rfl (fun hr10 => ?_)
              refine vj_goto G (tgt := 60) d_W_alike_51 (by decide) ?_
              cases hF
              exact vj_iret G0 hr10 d_W_alike_60
          · rw [if_neg c7] at hF
            refine vj_bipush G (v := (-2)) d_W_alike_38 rfl ?_
            cases hF
            exact vj_iret G0 ic_m2 d_W_alike_40
        · rw [if_neg c6] at hF
          refine vj_iconst G (v := (-1)) d_W_alike_31 rfl ?_
          cases hF
          exact vj_iret G0 ic_m1 d_W_alike_32
set_option maxHeartbeats 4000000 in
set_option maxRecDepth 100000 in
theorem wk_W_agreeingWith_69 {w : Wd} {X : Cx} {r : Int} {M9 : Mm} (G0 : Gx LC w X "WhoRules" b_W_agreeingWith 6 2 42 (some .int)) (n : Nat) (k6 : Int → Int → Int → Int → Int → Mm → Rr) (hk6 : ∀ (x1 x2 x3 x4 x5 : Int) (hx1 : inR x1) (hx2 : inR x2) (hx3 : inR x3) (hx4 : inR x4) (hx5 : inR x5) (M : Mm), k6 x1 x2 x3 x4 x5 M = some (r, M9) → VJ LC w X 6 1 r M9 M [(0, .ref (wa w 0)), (1, .int (i32 x1)), (2, .int (i32 x2)), (3, .int (i32 x3)), (4, .int (i32 x4)), (5, .int (i32 x5))] [] 6) (x1 x2 x3 x4 x5 : Int) (hx1 : inR x1) (hx2 : inR x2) (hx3 : inR x3) (hx4 : inR x4) (hx5 : inR x5) (M : Mm) (hF : f_W_agreeingWith_69 n k6 x1 x2 x3 x4 x5 M = some (r, M9)) : VJ LC w X 6 1 r M9 M [(0, .ref (wa w 0)), (1, .int (i32 x1)), (2, .int (i32 x2)), (3, .int (i32 x3)), (4, .int (i32 x4)), (5, .int (i32 x5))] [] 69 := by
  have G := G0.1
  unfold f_W_agreeingWith_69 at hF
  refine vj_iinc G (p9 := 5) (n := 1) (lv2 := [(5, .int (i32 (w32 (x5 + 1)))), (0, .ref (wa w 0)), (1, .int (i32 x1)), (2, .int (i32 x2)), (3, .int (i32 x3)), (4, .int (i32 x4))]) d_W_agreeingWith_69 rfl (by decide) rfl ?_
  refine vj_goto G (tgt := 6) d_W_agreeingWith_72 (by decide) ?_
  refine vj_sub [1, 2, 3, 4, 5, 0] rfl ?_
  exact hk6 x1 x2 x3 x4 (w32 (x5 + 1)) hx1 hx2 hx3 hx4 (ir_w _) _ hF
set_option maxHeartbeats 4000000 in
set_option maxRecDepth 100000 in
theorem wk_W_agreeingWith_6 {w : Wd} {X : Cx} {r : Int} {M9 : Mm} (G0 : Gx LC w X "WhoRules" b_W_agreeingWith 6 2 42 (some .int)) (n : Nat) (k6 : Int → Int → Int → Int → Int → Mm → Rr) (hk6 : ∀ (x1 x2 x3 x4 x5 : Int) (hx1 : inR x1) (hx2 : inR x2) (hx3 : inR x3) (hx4 : inR x4) (hx5 : inR x5) (M : Mm), k6 x1 x2 x3 x4 x5 M = some (r, M9) → VJ LC w X 6 1 r M9 M [(0, .ref (wa w 0)), (1, .int (i32 x1)), (2, .int (i32 x2)), (3, .int (i32 x3)), (4, .int (i32 x4)), (5, .int (i32 x5))] [] 6) (x1 x2 x3 x4 x5 : Int) (hx1 : inR x1) (hx2 : inR x2) (hx3 : inR x3) (hx4 : inR x4) (hx5 : inR x5) (M : Mm) (hF : f_W_agreeingWith_6 n k6 x1 x2 x3 x4 x5 M = some (r, M9)) : VJ LC w X 6 1 r M9 M [(0, .ref (wa w 0)), (1, .int (i32 x1)), (2, .int (i32 x2)), (3, .int (i32 x3)), (4, .int (i32 x4)), (5, .int (i32 x5))] [] 6 := by
  have G := G0.1
  unfold f_W_agreeingWith_6 at hF
  refine vj_iload G (p9 := 5) d_W_agreeingWith_6 rfl ?_
  refine vj_aload_n G (p9 := 0) d_W_agreeingWith_8 rfl rfl ?_
  refine gfC_W_18 G d_W_agreeingWith_9 ?_
  refine gfC_W_267 G d_W_agreeingWith_12 ?_
  refine vj_mr (fun hM1 => ?_)
  refine vj_icmp_ge G (tgt := 75) d_W_agreeingWith_15 (by decide) hx5 (mr_o hM1 lkC_1 flC_7_1) (fun c2 => ?_) (fun c2 => ?_)
  · rw [if_pos c2] at hF
    refine vj_iload G (p9 := 4) d_W_agreeingWith_75 rfl ?_
    cases hF
    exact vj_iret G0 hx4 d_W_agreeingWith_77
  · rw [if_neg c2] at hF
    refine vj_iload_n G (p9 := 3) d_W_agreeingWith_18 rfl rfl ?_
    refine vj_iload G (p9 := 5) d_W_agreeingWith_19 rfl ?_
    refine vj_ishr G d_W_agreeingWith_21 ?_
    refine vj_iconst G (v := 1) d_W_agreeingWith_22 rfl ?_
    refine vj_iand G d_W_agreeingWith_23 ?_
    refine vj_if_ne G (tgt := 69) d_W_agreeingWith_24 (by decide) (ir_an _ _) (fun c3 => ?_) (fun c3 => ?_)
    · rw [if_pos c3] at hF
      exact wk_W_agreeingWith_69 G0 n k6 hk6 x1 x2 x3 x4 x5 hx1 hx2 hx3 hx4 hx5 _ hF
    · rw [if_neg c3] at hF
      refine vj_aload_n G (p9 := 0) d_W_agreeingWith_27 rfl rfl ?_
      refine gfC_W_18 G d_W_agreeingWith_28 ?_
      refine vj_iload G (p9 := 5) d_W_agreeingWith_31 rfl ?_
      obtain ⟨r4, M4, e4, hF⟩ := bnd_some hF
      refine vj_callV3 G (ct_R_isPerson (gx_ij G) n x5 hx5 e4) lkC_1 clC_7 rfl q_1118 cq_R_isPerson rfl (by decide) (by decide) (Nat.le_of_ble_eq_true rfl) d_W_agreeingWith_33 rfl (fun hr4 => ?_)
      refine vj_if_eq G (tgt := 69) d_W_agreeingWith_36 (by decide) (ir_b hr4) (fun c5 => ?_) (fun c5 => ?_)
      · rw [if_pos c5] at hF
        exact wk_W_agreeingWith_69 G0 n k6 hk6 x1 x2 x3 x4 x5 hx1 hx2 hx3 hx4 hx5 _ hF
      · rw [if_neg c5] at hF
        refine vj_aload_n G (p9 := 0) d_W_agreeingWith_39 rfl rfl ?_
        refine vj_iload_n G (p9 := 1) d_W_agreeingWith_40 rfl rfl ?_
        refine vj_iload G (p9 := 5) d_W_agreeingWith_41 rfl ?_
        obtain ⟨r6, M6, e6, hF⟩ := bnd_some hF
        refine vj_callV1 G (ct_W_timesApart (gx_ij G) n x1 x5 hx1 hx5 e6) lkC_0 clC_6 rfl q_1110 cq_W_timesApart rfl (by decide) (by decide) (Nat.le_of_ble_eq_true rfl) d_W_agreeingWith_43 rfl (fun hr6 => ?_)
        refine vj_if_ne G (tgt := 69) d_W_agreeingWith_46 (by decide) hr6 (fun c7 => ?_) (fun c7 => ?_)
        · rw [if_pos c7] at hF
          exact wk_W_agreeingWith_69 G0 n k6 hk6 x1 x2 x3 x4 x5 hx1 hx2 hx3 hx4 hx5 _ hF
        · rw [if_neg c7] at hF
          refine vj_aload_n G (p9 := 0) d_W_agreeingWith_49 rfl rfl ?_
          refine vj_iload_n G (p9 := 1) d_W_agreeingWith_50 rfl rfl ?_
          refine vj_iload G (p9 := 5) d_W_agreeingWith_51 rfl ?_
          obtain ⟨r8, M8, e8, hF⟩ := bnd_some hF
          refine vj_callV1 G (ct_W_timesAlike (gx_ij G) n x1 x5 hx1 hx5 e8) lkC_0 clC_6 rfl q_1106 cq_W_timesAlike rfl (by decide) (by decide) (Nat.le_of_ble_eq_true rfl) d_W_agreeingWith_53 rfl (fun hr8 => ?_)
          refine vj_iload_n G (p9 := 2) d_W_agreeingWith_56 rfl rfl ?_
          refine vj_icmp_lt G (tgt := 69) d_W_agreeingWith_57 (by decide) hr8 hx2 (fun c9 => ?_) (fun c9 => ?_)
          · rw [if_pos c9] at hF
            exact wk_W_agreeingWith_69 G0 n k6 hk6 x1 x2 x3 x4 x5 hx1 hx2 hx3 hx4 hx5 _ hF
          · rw [if_neg c9] at hF
            refine vj_iload G (p9 := 4) d_W_agreeingWith_60 rfl ?_
            refine vj_iconst G (v := 1) d_W_agreeingWith_62 rfl ?_
            refine vj_iload G (p9 := 5) d_W_agreeingWith_63 rfl ?_
            refine vj_ishl G d_W_agreeingWith_65 ?_
            refine vj_ior G d_W_agreeingWith_66 ?_
            refine vj_istore G (lv2 := [(4, .int (i32 (ior x4 (ish 1 x5)))), (0, .ref (wa w 0)), (1, .int (i32 x1)), (2, .int (i32 x2)), (3, .int (i32 x3)), (5, .int (i32 x5))]) d_W_agreeingWith_67 (by decide) rfl ?_
            refine vj_sub [1, 2, 3, 4, 0, 5] rfl ?_
            exact wk_W_agreeingWith_69 G0 n k6 hk6 x1 x2 x3 (ior x4 (ish 1 x5)) x5 hx1 hx2 hx3 (ir_or _ _) hx5 _ hF
set_option maxHeartbeats 4000000 in
set_option maxRecDepth 100000 in
theorem wl_W_agreeingWith_6 {w : Wd} {X : Cx} {r : Int} {M9 : Mm} (G0 : Gx LC w X "WhoRules" b_W_agreeingWith 6 2 42 (some .int)) (n : Nat) : ∀ (f : Nat) (x1 x2 x3 x4 x5 : Int) (hx1 : inR x1) (hx2 : inR x2) (hx3 : inR x3) (hx4 : inR x4) (hx5 : inR x5) (M : Mm), lp_W_agreeingWith_6 n f x1 x2 x3 x4 x5 M = some (r, M9) → VJ LC w X 6 1 r M9 M [(0, .ref (wa w 0)), (1, .int (i32 x1)), (2, .int (i32 x2)), (3, .int (i32 x3)), (4, .int (i32 x4)), (5, .int (i32 x5))] [] 6 := by
  intro f
  induction f with
  | zero => intro x1 x2 x3 x4 x5 hx1 hx2 hx3 hx4 hx5 M hF; cases hF
  | succ f ih => intro x1 x2 x3 x4 x5 hx1 hx2 hx3 hx4 hx5 M hF; exact wk_W_agreeingWith_6 G0 n (lp_W_agreeingWith_6 n f) ih x1 x2 x3 x4 x5 hx1 hx2 hx3 hx4 hx5 M hF
set_option maxHeartbeats 4000000 in
set_option maxRecDepth 100000 in
theorem ct_W_agreeingWith {w : Wd} (hij : ij LC w) (n : Nat) (x1 x2 x3 : Int) (hx1 : inR x1) (hx2 : inR x2) (hx3 : inR x3) {M : Mm} {r : Int} {M9 : Mm} (hF : f_W_agreeingWith n x1 x2 x3 M = some (r, M9)) : Ct LC w y_W_agreeingWith b_W_agreeingWith 6 (some .int) 2 42 1 [.ref (wa w 0), .int (i32 x1), .int (i32 x2), .int (i32 x3)] M r M9 := by
  refine Ct.of hij KstC (by decide +kernel) (Nat.le_of_ble_eq_true rfl) (fun X G0 => ?_)
  have G := G0.1
  show VJ LC w X 6 1 r M9 M [(0, .ref (wa w 0)), (1, .int (i32 x1)), (2, .int (i32 x2)), (3, .int (i32 x3))] [] 0
  unfold f_W_agreeingWith at hF
  refine vj_iconst G (v := 0) d_W_agreeingWith_0 rfl ?_
  refine vj_istore G (lv2 := [(4, .int (i32 0)), (0, .ref (wa w 0)), (1, .int (i32 x1)), (2, .int (i32 x2)), (3, .int (i32 x3))]) d_W_agreeingWith_1 (by decide) rfl ?_
  refine vj_iconst G (v := 0) d_W_agreeingWith_3 rfl ?_
  refine vj_istore G (lv2 := [(5, .int (i32 0)), (4, .int (i32 0)), (0, .ref (wa w 0)), (1, .int (i32 x1)), (2, .int (i32 x2)), (3, .int (i32 x3))]) d_W_agreeingWith_4 (by decide) rfl ?_
  refine vj_sub [2, 3, 4, 5, 1, 0] rfl ?_
  exact wl_W_agreeingWith_6 G0 n  n x1 x2 x3 0 0 hx1 hx2 hx3 ic_0 ic_0 _ hF
set_option maxHeartbeats 4000000 in
set_option maxRecDepth 100000 in
theorem wk_W_asOneWith_71 {w : Wd} {X : Cx} {r : Int} {M9 : Mm} (G0 : Gx LC w X "WhoRules" b_W_asOneWith 8 3 67 (some .int)) (n : Nat) (k10 : Int → Int → Int → Int → Mm → Rr) (hk10 : ∀ (x2 x3 x4 x5 : Int) (hx2 : inR x2) (hx3 : inR x3) (hx4 : inR x4) (hx5 : inR x5) (M : Mm), k10 x2 x3 x4 x5 M = some (r, M9) → VJ LC w X 8 1 r M9 M [(0, .ref (wa w 0)), (2, .int (i32 x2)), (3, .int (i32 x3)), (4, .int (i32 x4)), (5, .int (i32 x5))] [] 10) (k37 : Int → Int → Int → Int → Int → Int → Mm → Rr) (hk37 : ∀ (x2 x3 x4 x5 x6 x7 : Int) (hx2 : inR x2) (hx3 : inR x3) (hx4 : inR x4) (hx5 : inR x5) (hx6 : inR x6) (hx7 : inR x7) (M : Mm), k37 x2 x3 x4 x5 x6 x7 M = some (r, M9) → VJ LC w X 8 1 r M9 M [(0, .ref (wa w 0)), (2, .int (i32 x2)), (3, .int (i32 x3)), (4, .int (i32 x4)), (5, .int (i32 x5)), (6, .int (i32 x6)), (7, .int (i32 x7))] [] 37) (x2 x3 x4 x5 x6 x7 : Int) (hx2 : inR x2) (hx3 : inR x3) (hx4 : inR x4) (hx5 : inR x5) (hx6 : inR x6) (hx7 : inR x7) (M : Mm) (hF : f_W_asOneWith_71 n k10 k37 x2 x3 x4 x5 x6 x7 M = some (r, M9)) : VJ LC w X 8 1 r M9 M [(0, .ref (wa w 0)), (2, .int (i32 x2)), (3, .int (i32 x3)), (4, .int (i32 x4)), (5, .int (i32 x5)), (6, .int (i32 x6)), (7, .int (i32 x7))] [] 71 := by
  have G := G0.1
  unfold f_W_asOneWith_71 at hF
  refine vj_iinc G (p9 := 6) (n := 1) (lv2 := [(7, .int (i32 (w32 (x7 + 1)))), (0, .ref (wa w 0)), (2, .int (i32 x2)), (3, .int (i32 x3)), (4, .int (i32 x4)), (5, .int (i32 x5)), (6, .int (i32 x6))]) d_W_asOneWith_71 rfl (by decide) rfl ?_
  refine vj_goto G (tgt := 37) d_W_asOneWith_74 (by decide) ?_
  refine vj_sub [1, 2, 3, 4, 5, 6, 0] rfl ?_
  exact hk37 x2 x3 x4 x5 x6 (w32 (x7 + 1)) hx2 hx3 hx4 hx5 hx6 (ir_w _) _ hF
set_option maxHeartbeats 4000000 in
set_option maxRecDepth 100000 in
theorem wk_W_asOneWith_37 {w : Wd} {X : Cx} {r : Int} {M9 : Mm} (G0 : Gx LC w X "WhoRules" b_W_asOneWith 8 3 67 (some .int)) (n : Nat) (k10 : Int → Int → Int → Int → Mm → Rr) (hk10 : ∀ (x2 x3 x4 x5 : Int) (hx2 : inR x2) (hx3 : inR x3) (hx4 : inR x4) (hx5 : inR x5) (M : Mm), k10 x2 x3 x4 x5 M = some (r, M9) → VJ LC w X 8 1 r M9 M [(0, .ref (wa w 0)), (2, .int (i32 x2)), (3, .int (i32 x3)), (4, .int (i32 x4)), (5, .int (i32 x5))] [] 10) (k37 : Int → Int → Int → Int → Int → Int → Mm → Rr) (hk37 : ∀ (x2 x3 x4 x5 x6 x7 : Int) (hx2 : inR x2) (hx3 : inR x3) (hx4 : inR x4) (hx5 : inR x5) (hx6 : inR x6) (hx7 : inR x7) (M : Mm), k37 x2 x3 x4 x5 x6 x7 M = some (r, M9) → VJ LC w X 8 1 r M9 M [(0, .ref (wa w 0)), (2, .int (i32 x2)), (3, .int (i32 x3)), (4, .int (i32 x4)), (5, .int (i32 x5)), (6, .int (i32 x6)), (7, .int (i32 x7))] [] 37) (x2 x3 x4 x5 x6 x7 : Int) (hx2 : inR x2) (hx3 : inR x3) (hx4 : inR x4) (hx5 : inR x5) (hx6 : inR x6) (hx7 : inR x7) (M : Mm) (hF : f_W_asOneWith_37 n k10 k37 x2 x3 x4 x5 x6 x7 M = some (r, M9)) : VJ LC w X 8 1 r M9 M [(0, .ref (wa w 0)), (2, .int (i32 x2)), (3, .int (i32 x3)), (4, .int (i32 x4)), (5, .int (i32 x5)), (6, .int (i32 x6)), (7, .int (i32 x7))] [] 37 := by
  have G := G0.1
  unfold f_W_asOneWith_37 at hF
  refine vj_iload G (p9 := 6) d_W_asOneWith_37 rfl ?_
  refine vj_aload_n G (p9 := 0) d_W_asOneWith_39 rfl rfl ?_
  refine gfC_W_18 G d_W_asOneWith_40 ?_
  refine gfC_W_267 G d_W_asOneWith_43 ?_
  refine vj_mr (fun hM1 => ?_)
  refine vj_icmp_ge G (tgt := 77) d_W_asOneWith_46 (by decide) hx7 (mr_o hM1 lkC_1 flC_7_1) (fun c2 => ?_) (fun c2 => ?_)
  · rw [if_pos c2] at hF
    refine vj_iinc G (p9 := 4) (n := 1) (lv2 := [(5, .int (i32 (w32 (x5 + 1)))), (0, .ref (wa w 0)), (2, .int (i32 x2)), (3, .int (i32 x3)), (4, .int (i32 x4)), (6, .int (i32 x6)), (7, .int (i32 x7))]) d_W_asOneWith_77 rfl (by decide) rfl ?_
    refine vj_goto G (tgt := 10) d_W_asOneWith_80 (by decide) ?_
    refine vj_sub [1, 2, 3, 4, 0] rfl ?_
    exact hk10 x2 x3 x4 (w32 (x5 + 1)) hx2 hx3 hx4 (ir_w _) _ hF
  · rw [if_neg c2] at hF
    refine vj_iload G (p9 := 5) d_W_asOneWith_49 rfl ?_
    refine vj_iload G (p9 := 6) d_W_asOneWith_51 rfl ?_
    refine vj_ishr G d_W_asOneWith_53 ?_
    refine vj_iconst G (v := 1) d_W_asOneWith_54 rfl ?_
    refine vj_iand G d_W_asOneWith_55 ?_
    refine vj_iconst G (v := 1) d_W_asOneWith_56 rfl ?_
    refine vj_icmp_ne G (tgt := 71) d_W_asOneWith_57 (by decide) (ir_an _ _) ic_1 (fun c3 => ?_) (fun c3 => ?_)
    · rw [if_pos c3] at hF
      exact wk_W_asOneWith_71 G0 n k10 hk10 k37 hk37 x2 x3 x4 x5 x6 x7 hx2 hx3 hx4 hx5 hx6 hx7 _ hF
    · rw [if_neg c3] at hF
      refine vj_iload_n G (p9 := 2) d_W_asOneWith_60 rfl rfl ?_
      refine vj_aload_n G (p9 := 0) d_W_asOneWith_61 rfl rfl ?_
      refine vj_iload G (p9 := 6) d_W_asOneWith_62 rfl ?_
      refine vj_iload_n G (p9 := 1) d_W_asOneWith_64 rfl rfl ?_
      refine vj_iload_n G (p9 := 2) d_W_asOneWith_65 rfl rfl ?_
      obtain ⟨r4, M4, e4, hF⟩ := bnd_some hF
      refine vj_callV1 G (ct_W_agreeingWith (gx_ij G) n x7 x2 x3 hx7 hx2 hx3 e4) lkC_0 clC_6 rfl q_1123 cq_W_agreeingWith rfl (by decide) (by decide) (Nat.le_of_ble_eq_true rfl) d_W_asOneWith_66 rfl (fun hr4 => ?_)
      refine vj_ior G d_W_asOneWith_69 ?_
      refine vj_istore_n G (lv2 := [(3, .int (i32 (ior x3 r4))), (0, .ref (wa w 0)), (2, .int (i32 x2)), (4, .int (i32 x4)), (5, .int (i32 x5)), (6, .int (i32 x6)), (7, .int (i32 x7))]) d_W_asOneWith_70 rfl (by decide) rfl ?_
      refine vj_sub [1, 2, 0, 3, 4, 5, 6] rfl ?_
      exact wk_W_asOneWith_71 G0 n k10 hk10 k37 hk37 x2 (ior x3 r4) x4 x5 x6 x7 hx2 (ir_or _ _) hx4 hx5 hx6 hx7 _ hF
set_option maxHeartbeats 4000000 in
set_option maxRecDepth 100000 in
theorem wl_W_asOneWith_37 {w : Wd} {X : Cx} {r : Int} {M9 : Mm} (G0 : Gx LC w X "WhoRules" b_W_asOneWith 8 3 67 (some .int)) (n : Nat) (k10 : Int → Int → Int → Int → Mm → Rr) (hk10 : ∀ (x2 x3 x4 x5 : Int) (hx2 : inR x2) (hx3 : inR x3) (hx4 : inR x4) (hx5 : inR x5) (M : Mm), k10 x2 x3 x4 x5 M = some (r, M9) → VJ LC w X 8 1 r M9 M [(0, .ref (wa w 0)), (2, .int (i32 x2)), (3, .int (i32 x3)), (4, .int (i32 x4)), (5, .int (i32 x5))] [] 10) : ∀ (f : Nat) (x2 x3 x4 x5 x6 x7 : Int) (hx2 : inR x2) (hx3 : inR x3) (hx4 : inR x4) (hx5 : inR x5) (hx6 : inR x6) (hx7 : inR x7) (M : Mm), lp_W_asOneWith_37 n k10 f x2 x3 x4 x5 x6 x7 M = some (r, M9) → VJ LC w X 8 1 r M9 M [(0, .ref (wa w 0)), (2, .int (i32 x2)), (3, .int (i32 x3)), (4, .int (i32 x4)), (5, .int (i32 x5)), (6, .int (i32 x6)), (7, .int (i32 x7))] [] 37 := by
  intro f
  induction f with
  | zero => intro x2 x3 x4 x5 x6 x7 hx2 hx3 hx4 hx5 hx6 hx7 M hF; cases hF
  | succ f ih => intro x2 x3 x4 x5 x6 x7 hx2 hx3 hx4 hx5 hx6 hx7 M hF; exact wk_W_asOneWith_37 G0 n k10 hk10 (lp_W_asOneWith_37 n k10 f) ih x2 x3 x4 x5 x6 x7 hx2 hx3 hx4 hx5 hx6 hx7 M hF
set_option maxHeartbeats 4000000 in
set_option maxRecDepth 100000 in
theorem wk_W_asOneWith_10 {w : Wd} {X : Cx} {r : Int} {M9 : Mm} (G0 : Gx LC w X "WhoRules" b_W_asOneWith 8 3 67 (some .int)) (n : Nat) (k10 : Int → Int → Int → Int → Mm → Rr) (hk10 : ∀ (x2 x3 x4 x5 : Int) (hx2 : inR x2) (hx3 : inR x3) (hx4 : inR x4) (hx5 : inR x5) (M : Mm), k10 x2 x3 x4 x5 M = some (r, M9) → VJ LC w X 8 1 r M9 M [(0, .ref (wa w 0)), (2, .int (i32 x2)), (3, .int (i32 x3)), (4, .int (i32 x4)), (5, .int (i32 x5))] [] 10) (x2 x3 x4 x5 : Int) (hx2 : inR x2) (hx3 : inR x3) (hx4 : inR x4) (hx5 : inR x5) (M : Mm) (hF : f_W_asOneWith_10 n k10 x2 x3 x4 x5 M = some (r, M9)) : VJ LC w X 8 1 r M9 M [(0, .ref (wa w 0)), (2, .int (i32 x2)), (3, .int (i32 x3)), (4, .int (i32 x4)), (5, .int (i32 x5))] [] 10 := by
  have G := G0.1
  unfold f_W_asOneWith_10 at hF
  refine vj_iload G (p9 := 4) d_W_asOneWith_10 rfl ?_
  refine vj_bipush G (v := 16) d_W_asOneWith_12 rfl ?_
  refine vj_icmp_ge G (tgt := 83) d_W_asOneWith_14 (by decide) hx5 ic_16 (fun c1 => ?_) (fun c1 => ?_)
  · rw [if_pos c1] at hF
    refine vj_iload_n G (p9 := 2) d_W_asOneWith_83 rfl rfl ?_
    cases hF
    exact vj_iret G0 hx3 d_W_asOneWith_84
  · rw [if_neg c1] at hF
    refine vj_iload G (p9 := 3) d_W_asOneWith_17 rfl ?_
    refine vj_iload_n G (p9 := 2) d_W_asOneWith_19 rfl rfl ?_
    refine vj_icmp_eq G (tgt := 83) d_W_asOneWith_20 (by decide) hx4 hx3 (fun c2 => ?_) (fun c2 => ?_)
    · rw [if_pos c2] at hF
      refine vj_iload_n G (p9 := 2) d_W_asOneWith_83 rfl rfl ?_
      cases hF
      exact vj_iret G0 hx3 d_W_asOneWith_84
    · rw [if_neg c2] at hF
      refine vj_iload_n G (p9 := 2) d_W_asOneWith_23 rfl rfl ?_
      refine vj_iload G (p9 := 3) d_W_asOneWith_24 rfl ?_
      refine vj_iconst G (v := (-1)) d_W_asOneWith_26 rfl ?_
      refine vj_ixor G d_W_asOneWith_27 ?_
      refine vj_iand G d_W_asOneWith_28 ?_
      refine vj_istore G (lv2 := [(6, .int (i32 (ian x3 (ixo x4 (-1))))), (0, .ref (wa w 0)), (2, .int (i32 x2)), (3, .int (i32 x3)), (4, .int (i32 x4)), (5, .int (i32 x5))]) d_W_asOneWith_29 (by decide) rfl ?_
      refine vj_iload_n G (p9 := 3) d_W_asOneWith_31 rfl rfl ?_
      refine vj_istore G (lv2 := [(4, .int (i32 x3)), (6, .int (i32 (ian x3 (ixo x4 (-1))))), (0, .ref (wa w 0)), (2, .int (i32 x2)), (3, .int (i32 x3)), (5, .int (i32 x5))]) d_W_asOneWith_32 (by decide) rfl ?_
      refine vj_iconst G (v := 0) d_W_asOneWith_34 rfl ?_
      refine vj_istore G (lv2 := [(7, .int (i32 0)), (4, .int (i32 x3)), (6, .int (i32 (ian x3 (ixo x4 (-1))))), (0, .ref (wa w 0)), (2, .int (i32 x2)), (3, .int (i32 x3)), (5, .int (i32 x5))]) d_W_asOneWith_35 (by decide) rfl ?_
      refine vj_sub [3, 4, 5, 1, 6, 2, 0] rfl ?_
      exact wl_W_asOneWith_37 G0 n k10 hk10 n x2 x3 x3 x5 (ian x3 (ixo x4 (-1))) 0 hx2 hx3 hx3 hx5 (ir_an _ _) ic_0 _ hF
set_option maxHeartbeats 4000000 in
set_option maxRecDepth 100000 in
theorem wl_W_asOneWith_10 {w : Wd} {X : Cx} {r : Int} {M9 : Mm} (G0 : Gx LC w X "WhoRules" b_W_asOneWith 8 3 67 (some .int)) (n : Nat) : ∀ (f : Nat) (x2 x3 x4 x5 : Int) (hx2 : inR x2) (hx3 : inR x3) (hx4 : inR x4) (hx5 : inR x5) (M : Mm), lp_W_asOneWith_10 n f x2 x3 x4 x5 M = some (r, M9) → VJ LC w X 8 1 r M9 M [(0, .ref (wa w 0)), (2, .int (i32 x2)), (3, .int (i32 x3)), (4, .int (i32 x4)), (5, .int (i32 x5))] [] 10 := by
  intro f
  induction f with
  | zero => intro x2 x3 x4 x5 hx2 hx3 hx4 hx5 M hF; cases hF
  | succ f ih => intro x2 x3 x4 x5 hx2 hx3 hx4 hx5 M hF; exact wk_W_asOneWith_10 G0 n (lp_W_asOneWith_10 n f) ih x2 x3 x4 x5 hx2 hx3 hx4 hx5 M hF
set_option maxHeartbeats 4000000 in
set_option maxRecDepth 100000 in
theorem ct_W_asOneWith {w : Wd} (hij : ij LC w) (n : Nat) (x1 x2 : Int) (hx1 : inR x1) (hx2 : inR x2) {M : Mm} {r : Int} {M9 : Mm} (hF : f_W_asOneWith n x1 x2 M = some (r, M9)) : Ct LC w y_W_asOneWith b_W_asOneWith 8 (some .int) 3 67 1 [.ref (wa w 0), .int (i32 x1), .int (i32 x2)] M r M9 := by
  refine Ct.of hij KstC (by decide +kernel) (Nat.le_of_ble_eq_true rfl) (fun X G0 => ?_)
  have G := G0.1
  show VJ LC w X 8 1 r M9 M [(0, .ref (wa w 0)), (1, .int (i32 x1)), (2, .int (i32 x2))] [] 0
  unfold f_W_asOneWith at hF
  refine vj_iconst G (v := 1) d_W_asOneWith_0 rfl ?_
  refine vj_iload_n G (p9 := 1) d_W_asOneWith_1 rfl rfl ?_
  refine vj_ishl G d_W_asOneWith_2 ?_
  refine vj_istore_n G (lv2 := [(3, .int (i32 (ish 1 x1))), (0, .ref (wa w 0)), (1, .int (i32 x1)), (2, .int (i32 x2))]) d_W_asOneWith_3 rfl (by decide) rfl ?_
  refine vj_iconst G (v := 0) d_W_asOneWith_4 rfl ?_
  refine vj_istore G (lv2 := [(4, .int (i32 0)), (3, .int (i32 (ish 1 x1))), (0, .ref (wa w 0)), (1, .int (i32 x1)), (2, .int (i32 x2))]) d_W_asOneWith_5 (by decide) rfl ?_
  refine vj_iconst G (v := 0) d_W_asOneWith_7 rfl ?_
  refine vj_istore G (lv2 := [(5, .int (i32 0)), (4, .int (i32 0)), (3, .int (i32 (ish 1 x1))), (0, .ref (wa w 0)), (1, .int (i32 x1)), (2, .int (i32 x2))]) d_W_asOneWith_8 (by decide) rfl ?_
  refine vj_sub [3, 5, 2, 1, 0] rfl ?_
  exact wl_W_asOneWith_10 G0 n  n x2 (ish 1 x1) 0 0 hx2 (ir_sh _ _) ic_0 ic_0 _ hF
set_option maxHeartbeats 4000000 in
set_option maxRecDepth 100000 in
theorem wk_W_found_85 {w : Wd} {X : Cx} {r : Int} {M9 : Mm} (G0 : Gx LC w X "WhoRules" b_W_found 6 4 94 (some .int)) (n : Nat) (k21 : Int → Int → Int → Int → Mm → Rr) (hk21 : ∀ (x1 x2 x3 x4 : Int) (hx1 : inR x1) (hx2 : inR x2) (hx3 : inR x3) (hx4 : inR x4) (M : Mm), k21 x1 x2 x3 x4 M = some (r, M9) → VJ LC w X 6 1 r M9 M [(0, .ref (wa w 0)), (1, .int (i32 x1)), (2, .int (i32 x2)), (3, .int (i32 x3)), (4, .int (i32 x4))] [] 21) (x1 x2 x3 x4 : Int) (hx1 : inR x1) (hx2 : inR x2) (hx3 : inR x3) (hx4 : inR x4) (M : Mm) (hF : f_W_found_85 n k21 x1 x2 x3 x4 M = some (r, M9)) : VJ LC w X 6 1 r M9 M [(0, .ref (wa w 0)), (1, .int (i32 x1)), (2, .int (i32 x2)), (3, .int (i32 x3)), (4, .int (i32 x4))] [] 85 := by
  have G := G0.1
  unfold f_W_found_85 at hF
  refine vj_iinc G (p9 := 4) (n := 1) (lv2 := [(4, .int (i32 (w32 (x4 + 1)))), (0, .ref (wa w 0)), (1, .int (i32 x1)), (2, .int (i32 x2)), (3, .int (i32 x3))]) d_W_found_85 rfl (by decide) rfl ?_
  refine vj_goto G (tgt := 21) d_W_found_88 (by decide) ?_
  refine vj_sub [1, 2, 3, 4, 0] rfl ?_
  exact hk21 x1 x2 x3 (w32 (x4 + 1)) hx1 hx2 hx3 (ir_w _) _ hF
