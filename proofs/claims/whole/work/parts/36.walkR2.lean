/-! Written by wip/whole/gen. Walks. -/
set_option maxHeartbeats 4000000 in
set_option maxRecDepth 100000 in
theorem wl_m_putRows_7 {w : Wd} {X : Cx} {r : Int} {M9 : Mm} (G0 : Gx LR w X "WhoRulesModel" b_m_putRows 5 2 54 none) (n : Nat) : ∀ (f : Nat) (x1 x2 : Int) (hx1 : inR x1) (hx2 : inR x2) (M : Mm), lp_m_putRows_7 n f x1 x2 M = some (r, M9) → VJ LR w X 5 0 r M9 M [(0, .ref (wa w 0)), (1, .int (i32 x1)), (2, .int (i32 x2))] [] 7 := by
  intro f
  induction f with
  | zero => intro x1 x2 hx1 hx2 M hF; cases hF
  | succ f ih => intro x1 x2 hx1 hx2 M hF; exact wk_m_putRows_7 G0 n (lp_m_putRows_7 n f) ih x1 x2 hx1 hx2 M hF
set_option maxHeartbeats 4000000 in
set_option maxRecDepth 100000 in
theorem ct_m_putRows {w : Wd} (hij : ij LR w) (n : Nat) (x1 : Int) (hx1 : inR x1) {M : Mm} {r : Int} {M9 : Mm} (hF : f_m_putRows n x1 M = some (r, M9)) : Ct LR w y_m_putRows b_m_putRows 5 none 2 54 0 [.ref (wa w 0), .int (i32 x1)] M r M9 := by
  refine Ct.of hij KstR (by decide +kernel) (Nat.le_of_ble_eq_true rfl) (fun X G0 => ?_)
  have G := G0.1
  show VJ LR w X 5 0 r M9 M [(0, .ref (wa w 0)), (1, .int (i32 x1))] [] 0
  unfold f_m_putRows at hF
  refine vj_aload_n G (p9 := 0) d_m_putRows_0 rfl rfl ?_
  refine vj_iconst G (v := 0) d_m_putRows_1 rfl ?_
  refine pfR_m_179 G ic_0 d_m_putRows_2 ?_
  refine vj_iconst G (v := 0) d_m_putRows_5 rfl ?_
  refine vj_istore_n G (lv2 := [(2, .int (i32 0)), (0, .ref (wa w 0)), (1, .int (i32 x1))]) d_m_putRows_6 rfl (by decide) rfl ?_
  refine vj_sub [1, 2, 0] rfl ?_
  exact wl_m_putRows_7 G0 n  n x1 0 hx1 ic_0 _ hF
set_option maxHeartbeats 4000000 in
set_option maxRecDepth 100000 in
theorem wk_m_solve_224 {w : Wd} {X : Cx} {r : Int} {M9 : Mm} (G0 : Gx LR w X "WhoRulesModel" b_m_solve 9 2 54 none) (n : Nat) (k2 : Int → Mm → Rr) (hk2 : ∀ (x1 : Int) (hx1 : inR x1) (M : Mm), k2 x1 M = some (r, M9) → VJ LR w X 9 0 r M9 M [(0, .ref (wa w 0)), (1, .int (i32 x1))] [] 2) (k100 : Int → Int → Mm → Rr) (hk100 : ∀ (x1 x3 : Int) (hx1 : inR x1) (hx3 : inR x3) (M : Mm), k100 x1 x3 M = some (r, M9) → VJ LR w X 9 0 r M9 M [(0, .ref (wa w 0)), (1, .int (i32 x1)), (3, .int (i32 x3))] [] 100) (x1 x3 : Int) (hx1 : inR x1) (hx3 : inR x3) (M : Mm) (hF : f_m_solve_224 n k2 k100 x1 x3 M = some (r, M9)) : VJ LR w X 9 0 r M9 M [(0, .ref (wa w 0)), (1, .int (i32 x1)), (3, .int (i32 x3))] [] 224 := by
  have G := G0.1
  unfold f_m_solve_224 at hF
  refine vj_iinc G (p9 := 2) (n := 1) (lv2 := [(3, .int (i32 (w32 (x3 + 1)))), (0, .ref (wa w 0)), (1, .int (i32 x1))]) d_m_solve_224 rfl (by decide) rfl ?_
  refine vj_goto G (tgt := 100) d_m_solve_227 (by decide) ?_
  refine vj_sub [1, 2, 0] rfl ?_
  exact hk100 x1 (w32 (x3 + 1)) hx1 (ir_w _) _ hF
set_option maxHeartbeats 4000000 in
set_option maxRecDepth 100000 in
theorem wk_m_solve_161 {w : Wd} {X : Cx} {r : Int} {M9 : Mm} (G0 : Gx LR w X "WhoRulesModel" b_m_solve 9 2 54 none) (n : Nat) (k2 : Int → Mm → Rr) (hk2 : ∀ (x1 : Int) (hx1 : inR x1) (M : Mm), k2 x1 M = some (r, M9) → VJ LR w X 9 0 r M9 M [(0, .ref (wa w 0)), (1, .int (i32 x1))] [] 2) (k100 : Int → Int → Mm → Rr) (hk100 : ∀ (x1 x3 : Int) (hx1 : inR x1) (hx3 : inR x3) (M : Mm), k100 x1 x3 M = some (r, M9) → VJ LR w X 9 0 r M9 M [(0, .ref (wa w 0)), (1, .int (i32 x1)), (3, .int (i32 x3))] [] 100) (k161 : Int → Int → Int → Int → Int → Mm → Rr) (hk161 : ∀ (x1 x3 x4 x6 x8 : Int) (hx1 : inR x1) (hx3 : inR x3) (hx4 : in64 x4) (hx6 : in64 x6) (hx8 : inR x8) (M : Mm), k161 x1 x3 x4 x6 x8 M = some (r, M9) → VJ LR w X 9 0 r M9 M [(0, .ref (wa w 0)), (1, .int (i32 x1)), (3, .int (i32 x3)), (4, .long (i64 x4)), (6, .long (i64 x6)), (8, .int (i32 x8))] [] 161) (x1 x3 x4 x6 x8 : Int) (hx1 : inR x1) (hx3 : inR x3) (hx4 : in64 x4) (hx6 : in64 x6) (hx8 : inR x8) (M : Mm) (hF : f_m_solve_161 n k2 k100 k161 x1 x3 x4 x6 x8 M = some (r, M9)) : VJ LR w X 9 0 r M9 M [(0, .ref (wa w 0)), (1, .int (i32 x1)), (3, .int (i32 x3)), (4, .long (i64 x4)), (6, .long (i64 x6)), (8, .int (i32 x8))] [] 161 := by
  have G := G0.1
  unfold f_m_solve_161 at hF
  refine vj_iload G (p9 := 5) d_m_solve_161 rfl ?_
  refine vj_aload_n G (p9 := 0) d_m_solve_163 rfl rfl ?_
  refine gfR_m_179 G d_m_solve_164 ?_
  refine vj_mr (fun hM1 => ?_)
  refine vj_icmp_gt G (tgt := 219) d_m_solve_167 (by decide) hx8 (mr_o hM1 lkR_0 flR_0_55) (fun c2 => ?_) (fun c2 => ?_)
  · rw [if_pos c2] at hF
    refine vj_aload_n G (p9 := 0) d_m_solve_219 rfl rfl ?_
    refine vj_iload_n G (p9 := 2) d_m_solve_220 rfl rfl ?_
    obtain ⟨r3, M3, e3, hF⟩ := bnd_some hF
    refine vj_callV0 G (ct_m_tidy (gx_ij G) n x3 hx3 e3) lkR_0 clR_0 rfl q_1766 cq_m_tidy rfl (by decide) (by decide) (Nat.le_of_ble_eq_true rfl) d_m_solve_221 rfl (fun hr3 => ?_)
    refine vj_sub [0, 1, 2] rfl ?_
    exact wk_m_solve_224 G0 n k2 hk2 k100 hk100 x1 x3 hx1 hx3 _ hF
  · rw [if_neg c2] at hF
    refine vj_aload_n G (p9 := 0) d_m_solve_170 rfl rfl ?_
    refine gfR_m_169 G d_m_solve_171 ?_
    refine vj_bipush G (v := 8) d_m_solve_174 rfl ?_
    refine vj_iload_n G (p9 := 2) d_m_solve_176 rfl rfl ?_
    refine vj_imul G d_m_solve_177 ?_
    refine vj_iload G (p9 := 5) d_m_solve_178 rfl ?_
    refine vj_iadd G d_m_solve_180 ?_
    refine vj_aload_n G (p9 := 0) d_m_solve_181 rfl rfl ?_
    refine gfR_m_169 G d_m_solve_182 ?_
    refine vj_bipush G (v := 8) d_m_solve_185 rfl ?_
    refine vj_iload_n G (p9 := 2) d_m_solve_187 rfl rfl ?_
    refine vj_imul G d_m_solve_188 ?_
    refine vj_iload G (p9 := 5) d_m_solve_189 rfl ?_
    refine vj_iadd G d_m_solve_191 ?_
    obtain ⟨c4, hF⟩ := ck_some hF
    refine vj_lald G (x := w32 ((w32 (8 * x3)) + x8)) lkR_33 (by decide) c4 d_m_solve_192 ?_
    refine vj_mr (fun hM5 => ?_)
    refine vj_lload G (p9 := 3) d_m_solve_193 rfl ?_
    refine vj_lmul G d_m_solve_195 ?_
    refine vj_aload_n G (p9 := 0) d_m_solve_196 rfl rfl ?_
    refine gfR_m_169 G d_m_solve_197 ?_
    refine vj_bipush G (v := 8) d_m_solve_200 rfl ?_
    refine vj_iload_n G (p9 := 1) d_m_solve_202 rfl rfl ?_
    refine vj_imul G d_m_solve_203 ?_
    refine vj_iload G (p9 := 5) d_m_solve_204 rfl ?_
    refine vj_iadd G d_m_solve_206 ?_
    obtain ⟨c6, hF⟩ := ck_some hF
    refine vj_lald G (x := w32 ((w32 (8 * x1)) + x8)) lkR_33 (by decide) c6 d_m_solve_207 ?_
    refine vj_lload G (p9 := 4) d_m_solve_208 rfl ?_
    refine vj_lmul G d_m_solve_210 ?_
    refine vj_lsub G d_m_solve_211 ?_
    obtain ⟨c7, hF⟩ := ck_some hF
    refine vj_last G (x := w32 ((w32 (8 * x3)) + x8)) lkR_33 (by decide) (by decide) (by decide) c7 (lr_w _) d_m_solve_212 ?_
    refine vj_iinc G (p9 := 5) (n := 1) (lv2 := [(8, .int (i32 (w32 (x8 + 1)))), (0, .ref (wa w 0)), (1, .int (i32 x1)), (3, .int (i32 x3)), (4, .long (i64 x4)), (6, .long (i64 x6))]) d_m_solve_213 rfl (by decide) rfl ?_
    refine vj_goto G (tgt := 161) d_m_solve_216 (by decide) ?_
    refine vj_sub [1, 2, 3, 4, 5, 0] rfl ?_
    exact hk161 x1 x3 x4 x6 (w32 (x8 + 1)) hx1 hx3 hx4 hx6 (ir_w _) _ hF
set_option maxHeartbeats 4000000 in
set_option maxRecDepth 100000 in
theorem wl_m_solve_161 {w : Wd} {X : Cx} {r : Int} {M9 : Mm} (G0 : Gx LR w X "WhoRulesModel" b_m_solve 9 2 54 none) (n : Nat) (k2 : Int → Mm → Rr) (hk2 : ∀ (x1 : Int) (hx1 : inR x1) (M : Mm), k2 x1 M = some (r, M9) → VJ LR w X 9 0 r M9 M [(0, .ref (wa w 0)), (1, .int (i32 x1))] [] 2) (k100 : Int → Int → Mm → Rr) (hk100 : ∀ (x1 x3 : Int) (hx1 : inR x1) (hx3 : inR x3) (M : Mm), k100 x1 x3 M = some (r, M9) → VJ LR w X 9 0 r M9 M [(0, .ref (wa w 0)), (1, .int (i32 x1)), (3, .int (i32 x3))] [] 100) : ∀ (f : Nat) (x1 x3 x4 x6 x8 : Int) (hx1 : inR x1) (hx3 : inR x3) (hx4 : in64 x4) (hx6 : in64 x6) (hx8 : inR x8) (M : Mm), lp_m_solve_161 n k2 k100 f x1 x3 x4 x6 x8 M = some (r, M9) → VJ LR w X 9 0 r M9 M [(0, .ref (wa w 0)), (1, .int (i32 x1)), (3, .int (i32 x3)), (4, .long (i64 x4)), (6, .long (i64 x6)), (8, .int (i32 x8))] [] 161 := by
  intro f
  induction f with
  | zero => intro x1 x3 x4 x6 x8 hx1 hx3 hx4 hx6 hx8 M hF; cases hF
  | succ f ih => intro x1 x3 x4 x6 x8 hx1 hx3 hx4 hx6 hx8 M hF; exact wk_m_solve_161 G0 n k2 hk2 k100 hk100 (lp_m_solve_161 n k2 k100 f) ih x1 x3 x4 x6 x8 hx1 hx3 hx4 hx6 hx8 M hF
set_option maxHeartbeats 4000000 in
set_option maxRecDepth 100000 in
theorem wk_m_solve_100 {w : Wd} {X : Cx} {r : Int} {M9 : Mm} (G0 : Gx LR w X "WhoRulesModel" b_m_solve 9 2 54 none) (n : Nat) (k2 : Int → Mm → Rr) (hk2 : ∀ (x1 : Int) (hx1 : inR x1) (M : Mm), k2 x1 M = some (r, M9) → VJ LR w X 9 0 r M9 M [(0, .ref (wa w 0)), (1, .int (i32 x1))] [] 2) (k100 : Int → Int → Mm → Rr) (hk100 : ∀ (x1 x3 : Int) (hx1 : inR x1) (hx3 : inR x3) (M : Mm), k100 x1 x3 M = some (r, M9) → VJ LR w X 9 0 r M9 M [(0, .ref (wa w 0)), (1, .int (i32 x1)), (3, .int (i32 x3))] [] 100) (x1 x3 : Int) (hx1 : inR x1) (hx3 : inR x3) (M : Mm) (hF : f_m_solve_100 n k2 k100 x1 x3 M = some (r, M9)) : VJ LR w X 9 0 r M9 M [(0, .ref (wa w 0)), (1, .int (i32 x1)), (3, .int (i32 x3))] [] 100 := by
  have G := G0.1
  unfold f_m_solve_100 at hF
  refine vj_iload_n G (p9 := 2) d_m_solve_100 rfl rfl ?_
  refine vj_aload_n G (p9 := 0) d_m_solve_101 rfl rfl ?_
  refine gfR_m_179 G d_m_solve_102 ?_
  refine vj_mr (fun hM1 => ?_)
  refine vj_icmp_ge G (tgt := 230) d_m_solve_105 (by decide) hx3 (mr_o hM1 lkR_0 flR_0_55) (fun c2 => ?_) (fun c2 => ?_)
  · rw [if_pos c2] at hF
    refine vj_iinc G (p9 := 1) (n := 1) (lv2 := [(1, .int (i32 (w32 (x1 + 1)))), (0, .ref (wa w 0)), (3, .int (i32 x3))]) d_m_solve_230 rfl (by decide) rfl ?_
    refine vj_goto G (tgt := 2) d_m_solve_233 (by decide) ?_
    refine vj_sub [1, 0] rfl ?_
    exact hk2 (w32 (x1 + 1)) (ir_w _) _ hF
  · rw [if_neg c2] at hF
    refine vj_iload_n G (p9 := 2) d_m_solve_108 rfl rfl ?_
    refine vj_iload_n G (p9 := 1) d_m_solve_109 rfl rfl ?_
    refine vj_icmp_eq G (tgt := 224) d_m_solve_110 (by decide) hx3 hx1 (fun c3 => ?_) (fun c3 => ?_)
    · rw [if_pos c3] at hF
      exact wk_m_solve_224 G0 n k2 hk2 k100 hk100 x1 x3 hx1 hx3 _ hF
    · rw [if_neg c3] at hF
      refine vj_aload_n G (p9 := 0) d_m_solve_113 rfl rfl ?_
      refine gfR_m_169 G d_m_solve_114 ?_
      refine vj_bipush G (v := 8) d_m_solve_117 rfl ?_
      refine vj_iload_n G (p9 := 2) d_m_solve_119 rfl rfl ?_
      refine vj_imul G d_m_solve_120 ?_
      refine vj_iload_n G (p9 := 1) d_m_solve_121 rfl rfl ?_
      refine vj_iadd G d_m_solve_122 ?_
      obtain ⟨c4, hF⟩ := ck_some hF
      refine vj_lald G (x := w32 ((w32 (8 * x3)) + x1)) lkR_33 (by decide) c4 d_m_solve_123 ?_
      refine vj_mr (fun hM5 => ?_)
      refine vj_lconst G (v := 0) d_m_solve_124 rfl ?_
      refine vj_lcmp_ne G (tgt := 132) d_m_solve_125 d_m_solve_126 (by decide) (mr_al hM5 lkR_33) (lr_i ic_0) (fun c6 => ?_) (fun c6 => ?_)
      · rw [if_pos c6] at hF
        refine vj_aload_n G (p9 := 0) d_m_solve_132 rfl rfl ?_
        refine gfR_m_169 G d_m_solve_133 ?_
        refine vj_bipush G (v := 8) d_m_solve_136 rfl ?_
        refine vj_iload_n G (p9 := 1) d_m_solve_138 rfl rfl ?_
        refine vj_imul G d_m_solve_139 ?_
        refine vj_iload_n G (p9 := 1) d_m_solve_140 rfl rfl ?_
        refine vj_iadd G d_m_solve_141 ?_
        obtain ⟨c7, hF⟩ := ck_some hF
        refine vj_lald G (x := w32 ((w32 (8 * x1)) + x1)) lkR_33 (by decide) c7 d_m_solve_142 ?_
        refine vj_mr (fun hM8 => ?_)
        refine vj_lstore G (lv2 := [(4, .long (i64 (M 33 (w32 ((w32 (8 * x1)) + x1)).toNat))), (0, .ref (wa w 0)), (1, .int (i32 x1)), (3, .int (i32 x3))]) d_m_solve_143 (by decide) rfl ?_
        refine vj_aload_n G (p9 := 1) d_m_solve_145 rfl rfl ?_
        refine gfR_m_169 G d_m_solve_146 ?_
        refine vj_bipush G (v := 8) d_m_solve_149 rfl ?_
        refine vj_iload_n G (p9 := 3) d_m_solve_151 rfl rfl ?_
        refine vj_imul G d_m_solve_152 ?_
        refine vj_iload_n G (p9 := 2) d_m_solve_153 rfl rfl ?_
        refine vj_iadd G d_m_solve_154 ?_
        obtain ⟨c9, hF⟩ := ck_some hF
        refine vj_lald G (x := w32 ((w32 (8 * x3)) + x1)) lkR_33 (by decide) c9 d_m_solve_155 ?_
        refine vj_lstore G (lv2 := [(6, .long (i64 (M 33 (w32 ((w32 (8 * x3)) + x1)).toNat))), (4, .long (i64 (M 33 (w32 ((w32 (8 * x1)) + x1)).toNat))), (0, .ref (wa w 0)), (1, .int (i32 x1)), (3, .int (i32 x3))]) d_m_solve_156 (by decide) rfl ?_
        refine vj_iconst G (v := 0) d_m_solve_158 rfl ?_
        refine vj_istore G (lv2 := [(8, .int (i32 0)), (6, .long (i64 (M 33 (w32 ((w32 (8 * x3)) + x1)).toNat))), (4, .long (i64 (M 33 (w32 ((w32 (8 * x1)) + x1)).toNat))), (0, .ref (wa w 0)), (1, .int (i32 x1)), (3, .int (i32 x3))]) d_m_solve_159 (by decide) rfl ?_
        refine vj_sub [3, 4, 5, 2, 1, 0] rfl ?_
        exact wl_m_solve_161 G0 n k2 hk2 k100 hk100 n x1 x3 (M 33 (w32 ((w32 (8 * x1)) + x1)).toNat) (M 33 (w32 ((w32 (8 * x3)) + x1)).toNat) 0 hx1 hx3 (mr_al hM8 lkR_33) (mr_al hM8 lkR_33) ic_0 _ hF
      · rw [if_neg c6] at hF
        refine vj_goto G (tgt := 224) d_m_solve_129 (by decide) ?_
        exact wk_m_solve_224 G0 n k2 hk2 k100 hk100 x1 x3 hx1 hx3 _ hF
set_option maxHeartbeats 4000000 in
set_option maxRecDepth 100000 in
theorem wl_m_solve_100 {w : Wd} {X : Cx} {r : Int} {M9 : Mm} (G0 : Gx LR w X "WhoRulesModel" b_m_solve 9 2 54 none) (n : Nat) (k2 : Int → Mm → Rr) (hk2 : ∀ (x1 : Int) (hx1 : inR x1) (M : Mm), k2 x1 M = some (r, M9) → VJ LR w X 9 0 r M9 M [(0, .ref (wa w 0)), (1, .int (i32 x1))] [] 2) : ∀ (f : Nat) (x1 x3 : Int) (hx1 : inR x1) (hx3 : inR x3) (M : Mm), lp_m_solve_100 n k2 f x1 x3 M = some (r, M9) → VJ LR w X 9 0 r M9 M [(0, .ref (wa w 0)), (1, .int (i32 x1)), (3, .int (i32 x3))] [] 100 := by
  intro f
  induction f with
  | zero => intro x1 x3 hx1 hx3 M hF; cases hF
  | succ f ih => intro x1 x3 hx1 hx3 M hF; exact wk_m_solve_100 G0 n k2 hk2 (lp_m_solve_100 n k2 f) ih x1 x3 hx1 hx3 M hF
set_option maxHeartbeats 4000000 in
set_option maxRecDepth 100000 in
theorem wk_m_solve_36 {w : Wd} {X : Cx} {r : Int} {M9 : Mm} (G0 : Gx LR w X "WhoRulesModel" b_m_solve 9 2 54 none) (n : Nat) (k2 : Int → Mm → Rr) (hk2 : ∀ (x1 : Int) (hx1 : inR x1) (M : Mm), k2 x1 M = some (r, M9) → VJ LR w X 9 0 r M9 M [(0, .ref (wa w 0)), (1, .int (i32 x1))] [] 2) (k36 : Int → Int → Int → Mm → Rr) (hk36 : ∀ (x1 x2 x3 : Int) (hx1 : inR x1) (hx2 : inR x2) (hx3 : inR x3) (M : Mm), k36 x1 x2 x3 M = some (r, M9) → VJ LR w X 9 0 r M9 M [(0, .ref (wa w 0)), (1, .int (i32 x1)), (2, .int (i32 x2)), (3, .int (i32 x3))] [] 36) (x1 x2 x3 : Int) (hx1 : inR x1) (hx2 : inR x2) (hx3 : inR x3) (M : Mm) (hF : f_m_solve_36 n k2 k36 x1 x2 x3 M = some (r, M9)) : VJ LR w X 9 0 r M9 M [(0, .ref (wa w 0)), (1, .int (i32 x1)), (2, .int (i32 x2)), (3, .int (i32 x3))] [] 36 := by
  have G := G0.1
  unfold f_m_solve_36 at hF
  refine vj_iload_n G (p9 := 3) d_m_solve_36 rfl rfl ?_
  refine vj_aload_n G (p9 := 0) d_m_solve_37 rfl rfl ?_
  refine gfR_m_179 G d_m_solve_38 ?_
  refine vj_mr (fun hM1 => ?_)
  refine vj_icmp_gt G (tgt := 98) d_m_solve_41 (by decide) hx3 (mr_o hM1 lkR_0 flR_0_55) (fun c2 => ?_) (fun c2 => ?_)
  · rw [if_pos c2] at hF
    refine vj_iconst G (v := 0) d_m_solve_98 rfl ?_
    refine vj_istore_n G (lv2 := [(3, .int (i32 0)), (0, .ref (wa w 0)), (1, .int (i32 x1)), (2, .int (i32 x2))]) d_m_solve_99 rfl (by decide) rfl ?_
    refine vj_sub [1, 2, 0] rfl ?_
    exact wl_m_solve_100 G0 n k2 hk2 n x1 0 hx1 ic_0 _ hF
  · rw [if_neg c2] at hF
    refine vj_aload_n G (p9 := 0) d_m_solve_44 rfl rfl ?_
    refine gfR_m_169 G d_m_solve_45 ?_
    refine vj_bipush G (v := 8) d_m_solve_48 rfl ?_
    refine vj_iload_n G (p9 := 2) d_m_solve_50 rfl rfl ?_
    refine vj_imul G d_m_solve_51 ?_
    refine vj_iload_n G (p9 := 3) d_m_solve_52 rfl rfl ?_
    refine vj_iadd G d_m_solve_53 ?_
    obtain ⟨c3, hF⟩ := ck_some hF
    refine vj_lald G (x := w32 ((w32 (8 * x2)) + x3)) lkR_33 (by decide) c3 d_m_solve_54 ?_
    refine vj_mr (fun hM4 => ?_)
    refine vj_lstore G (lv2 := [(4, .long (i64 (M 33 (w32 ((w32 (8 * x2)) + x3)).toNat))), (0, .ref (wa w 0)), (1, .int (i32 x1)), (2, .int (i32 x2)), (3, .int (i32 x3))]) d_m_solve_55 (by decide) rfl ?_
    refine vj_aload_n G (p9 := 1) d_m_solve_57 rfl rfl ?_
    refine gfR_m_169 G d_m_solve_58 ?_
    refine vj_bipush G (v := 8) d_m_solve_61 rfl ?_
    refine vj_iload_n G (p9 := 3) d_m_solve_63 rfl rfl ?_
    refine vj_imul G d_m_solve_64 ?_
    refine vj_iload_n G (p9 := 4) d_m_solve_65 rfl rfl ?_
    refine vj_iadd G d_m_solve_66 ?_
    refine vj_aload_n G (p9 := 1) d_m_solve_67 rfl rfl ?_
    refine gfR_m_169 G d_m_solve_68 ?_
    refine vj_bipush G (v := 8) d_m_solve_71 rfl ?_
    refine vj_iload_n G (p9 := 2) d_m_solve_73 rfl rfl ?_
    refine vj_imul G d_m_solve_74 ?_
    refine vj_iload_n G (p9 := 4) d_m_solve_75 rfl rfl ?_
    refine vj_iadd G d_m_solve_76 ?_
    obtain ⟨c5, hF⟩ := ck_some hF
    refine vj_lald G (x := w32 ((w32 (8 * x1)) + x3)) lkR_33 (by decide) c5 d_m_solve_77 ?_
    obtain ⟨c6, hF⟩ := ck_some hF
    refine vj_last G (x := w32 ((w32 (8 * x2)) + x3)) lkR_33 (by decide) (by decide) (by decide) c6 (mr_al hM4 lkR_33) d_m_solve_78 ?_
    refine vj_aload_n G (p9 := 1) d_m_solve_79 rfl rfl ?_
    refine gfR_m_169 G d_m_solve_80 ?_
    refine vj_bipush G (v := 8) d_m_solve_83 rfl ?_
    refine vj_iload_n G (p9 := 2) d_m_solve_85 rfl rfl ?_
    refine vj_imul G d_m_solve_86 ?_
    refine vj_iload_n G (p9 := 4) d_m_solve_87 rfl rfl ?_
    refine vj_iadd G d_m_solve_88 ?_
    refine vj_lload G (p9 := 0) d_m_solve_89 rfl ?_
    obtain ⟨c7, hF⟩ := ck_some hF
    refine vj_last G (x := w32 ((w32 (8 * x1)) + x3)) lkR_33 (by decide) (by decide) (by decide) c7 (mr_al hM4 lkR_33) d_m_solve_91 ?_
    refine vj_iinc G (p9 := 4) (n := 1) (lv2 := [(3, .int (i32 (w32 (x3 + 1)))), (4, .long (i64 (M 33 (w32 ((w32 (8 * x2)) + x3)).toNat))), (0, .ref (wa w 0)), (1, .int (i32 x1)), (2, .int (i32 x2))]) d_m_solve_92 rfl (by decide) rfl ?_
    refine vj_goto G (tgt := 36) d_m_solve_95 (by decide) ?_
    refine vj_sub [2, 3, 4, 0] rfl ?_
    exact hk36 x1 x2 (w32 (x3 + 1)) hx1 hx2 (ir_w _) _ hF
set_option maxHeartbeats 4000000 in
set_option maxRecDepth 100000 in
theorem wl_m_solve_36 {w : Wd} {X : Cx} {r : Int} {M9 : Mm} (G0 : Gx LR w X "WhoRulesModel" b_m_solve 9 2 54 none) (n : Nat) (k2 : Int → Mm → Rr) (hk2 : ∀ (x1 : Int) (hx1 : inR x1) (M : Mm), k2 x1 M = some (r, M9) → VJ LR w X 9 0 r M9 M [(0, .ref (wa w 0)), (1, .int (i32 x1))] [] 2) : ∀ (f : Nat) (x1 x2 x3 : Int) (hx1 : inR x1) (hx2 : inR x2) (hx3 : inR x3) (M : Mm), lp_m_solve_36 n k2 f x1 x2 x3 M = some (r, M9) → VJ LR w X 9 0 r M9 M [(0, .ref (wa w 0)), (1, .int (i32 x1)), (2, .int (i32 x2)), (3, .int (i32 x3))] [] 36 := by
  intro f
  induction f with
  | zero => intro x1 x2 x3 hx1 hx2 hx3 M hF; cases hF
  | succ f ih => intro x1 x2 x3 hx1 hx2 hx3 M hF; exact wk_m_solve_36 G0 n k2 hk2 (lp_m_solve_36 n k2 f) ih x1 x2 x3 hx1 hx2 hx3 M hF
set_option maxHeartbeats 4000000 in
set_option maxRecDepth 100000 in
theorem wk_m_solve_12 {w : Wd} {X : Cx} {r : Int} {M9 : Mm} (G0 : Gx LR w X "WhoRulesModel" b_m_solve 9 2 54 none) (n : Nat) (k2 : Int → Mm → Rr) (hk2 : ∀ (x1 : Int) (hx1 : inR x1) (M : Mm), k2 x1 M = some (r, M9) → VJ LR w X 9 0 r M9 M [(0, .ref (wa w 0)), (1, .int (i32 x1))] [] 2) (k12 : Int → Int → Mm → Rr) (hk12 : ∀ (x1 x2 : Int) (hx1 : inR x1) (hx2 : inR x2) (M : Mm), k12 x1 x2 M = some (r, M9) → VJ LR w X 9 0 r M9 M [(0, .ref (wa w 0)), (1, .int (i32 x1)), (2, .int (i32 x2))] [] 12) (x1 x2 : Int) (hx1 : inR x1) (hx2 : inR x2) (M : Mm) (hF : f_m_solve_12 n k2 k12 x1 x2 M = some (r, M9)) : VJ LR w X 9 0 r M9 M [(0, .ref (wa w 0)), (1, .int (i32 x1)), (2, .int (i32 x2))] [] 12 := by
  have G := G0.1
  unfold f_m_solve_12 at hF
  refine vj_aload_n G (p9 := 0) d_m_solve_12 rfl rfl ?_
  refine gfR_m_169 G d_m_solve_13 ?_
  refine vj_bipush G (v := 8) d_m_solve_16 rfl ?_
  refine vj_iload_n G (p9 := 2) d_m_solve_18 rfl rfl ?_
  refine vj_imul G d_m_solve_19 ?_
  refine vj_iload_n G (p9 := 1) d_m_solve_20 rfl rfl ?_
  refine vj_iadd G d_m_solve_21 ?_
  obtain ⟨c1, hF⟩ := ck_some hF
  refine vj_lald G (x := w32 ((w32 (8 * x2)) + x1)) lkR_33 (by decide) c1 d_m_solve_22 ?_
  refine vj_mr (fun hM2 => ?_)
  refine vj_lconst G (v := 0) d_m_solve_23 rfl ?_
  refine vj_lcmp_ne G (tgt := 34) d_m_solve_24 d_m_solve_25 (by decide) (mr_al hM2 lkR_33) (lr_i ic_0) (fun c3 => ?_) (fun c3 => ?_)
  · rw [if_pos c3] at hF
    refine vj_iconst G (v := 0) d_m_solve_34 rfl ?_
    refine vj_istore_n G (lv2 := [(3, .int (i32 0)), (0, .ref (wa w 0)), (1, .int (i32 x1)), (2, .int (i32 x2))]) d_m_solve_35 rfl (by decide) rfl ?_
    refine vj_sub [1, 2, 3, 0] rfl ?_
    exact wl_m_solve_36 G0 n k2 hk2 n x1 x2 0 hx1 hx2 ic_0 _ hF
  · rw [if_neg c3] at hF
    refine vj_iinc G (p9 := 2) (n := 1) (lv2 := [(2, .int (i32 (w32 (x2 + 1)))), (0, .ref (wa w 0)), (1, .int (i32 x1))]) d_m_solve_28 rfl (by decide) rfl ?_
    refine vj_goto G (tgt := 12) d_m_solve_31 (by decide) ?_
    refine vj_sub [1, 2, 0] rfl ?_
    exact hk12 x1 (w32 (x2 + 1)) hx1 (ir_w _) _ hF
set_option maxHeartbeats 4000000 in
set_option maxRecDepth 100000 in
theorem wl_m_solve_12 {w : Wd} {X : Cx} {r : Int} {M9 : Mm} (G0 : Gx LR w X "WhoRulesModel" b_m_solve 9 2 54 none) (n : Nat) (k2 : Int → Mm → Rr) (hk2 : ∀ (x1 : Int) (hx1 : inR x1) (M : Mm), k2 x1 M = some (r, M9) → VJ LR w X 9 0 r M9 M [(0, .ref (wa w 0)), (1, .int (i32 x1))] [] 2) : ∀ (f : Nat) (x1 x2 : Int) (hx1 : inR x1) (hx2 : inR x2) (M : Mm), lp_m_solve_12 n k2 f x1 x2 M = some (r, M9) → VJ LR w X 9 0 r M9 M [(0, .ref (wa w 0)), (1, .int (i32 x1)), (2, .int (i32 x2))] [] 12 := by
  intro f
  induction f with
  | zero => intro x1 x2 hx1 hx2 M hF; cases hF
  | succ f ih => intro x1 x2 hx1 hx2 M hF; exact wk_m_solve_12 G0 n k2 hk2 (lp_m_solve_12 n k2 f) ih x1 x2 hx1 hx2 M hF
set_option maxHeartbeats 4000000 in
set_option maxRecDepth 100000 in
theorem wk_m_solve_2 {w : Wd} {X : Cx} {r : Int} {M9 : Mm} (G0 : Gx LR w X "WhoRulesModel" b_m_solve 9 2 54 none) (n : Nat) (k2 : Int → Mm → Rr) (hk2 : ∀ (x1 : Int) (hx1 : inR x1) (M : Mm), k2 x1 M = some (r, M9) → VJ LR w X 9 0 r M9 M [(0, .ref (wa w 0)), (1, .int (i32 x1))] [] 2) (x1 : Int) (hx1 : inR x1) (M : Mm) (hF : f_m_solve_2 n k2 x1 M = some (r, M9)) : VJ LR w X 9 0 r M9 M [(0, .ref (wa w 0)), (1, .int (i32 x1))] [] 2 := by
  have G := G0.1
  unfold f_m_solve_2 at hF
  refine vj_iload_n G (p9 := 1) d_m_solve_2 rfl rfl ?_
  refine vj_aload_n G (p9 := 0) d_m_solve_3 rfl rfl ?_
  refine gfR_m_179 G d_m_solve_4 ?_
  refine vj_mr (fun hM1 => ?_)
  refine vj_icmp_ge G (tgt := 236) d_m_solve_7 (by decide) hx1 (mr_o hM1 lkR_0 flR_0_55) (fun c2 => ?_) (fun c2 => ?_)
  · rw [if_pos c2] at hF
    cases hF
    exact vj_vret G0 d_m_solve_236
  · rw [if_neg c2] at hF
    refine vj_iload_n G (p9 := 1) d_m_solve_10 rfl rfl ?_
    refine vj_istore_n G (lv2 := [(2, .int (i32 x1)), (0, .ref (wa w 0)), (1, .int (i32 x1))]) d_m_solve_11 rfl (by decide) rfl ?_
    refine vj_sub [1, 2, 0] rfl ?_
    exact wl_m_solve_12 G0 n k2 hk2 n x1 x1 hx1 hx1 _ hF
set_option maxHeartbeats 4000000 in
set_option maxRecDepth 100000 in
theorem wl_m_solve_2 {w : Wd} {X : Cx} {r : Int} {M9 : Mm} (G0 : Gx LR w X "WhoRulesModel" b_m_solve 9 2 54 none) (n : Nat) : ∀ (f : Nat) (x1 : Int) (hx1 : inR x1) (M : Mm), lp_m_solve_2 n f x1 M = some (r, M9) → VJ LR w X 9 0 r M9 M [(0, .ref (wa w 0)), (1, .int (i32 x1))] [] 2 := by
  intro f
  induction f with
  | zero => intro x1 hx1 M hF; cases hF
  | succ f ih => intro x1 hx1 M hF; exact wk_m_solve_2 G0 n (lp_m_solve_2 n f) ih x1 hx1 M hF
set_option maxHeartbeats 4000000 in
set_option maxRecDepth 100000 in
theorem ct_m_solve {w : Wd} (hij : ij LR w) (n : Nat) {M : Mm} {r : Int} {M9 : Mm} (hF : f_m_solve n  M = some (r, M9)) : Ct LR w y_m_solve b_m_solve 9 none 2 54 0 [.ref (wa w 0)] M r M9 := by
  refine Ct.of hij KstR (by decide +kernel) (Nat.le_of_ble_eq_true rfl) (fun X G0 => ?_)
  have G := G0.1
  show VJ LR w X 9 0 r M9 M [(0, .ref (wa w 0))] [] 0
  unfold f_m_solve at hF
  refine vj_iconst G (v := 0) d_m_solve_0 rfl ?_
  refine vj_istore_n G (lv2 := [(1, .int (i32 0)), (0, .ref (wa w 0))]) d_m_solve_1 rfl (by decide) rfl ?_
  refine vj_sub [1, 0] rfl ?_
  exact wl_m_solve_2 G0 n  n 0 ic_0 _ hF
set_option maxHeartbeats 4000000 in
set_option maxRecDepth 100000 in
theorem wk_m_worth_134 {w : Wd} {X : Cx} {r : Int} {M9 : Mm} (G0 : Gx LR w X "WhoRulesModel" b_m_worth 11 3 82 (some .long)) (n : Nat) (x3 x5 x7 x9 : Int) (hx3 : inR x3) (hx5 : in64 x5) (hx7 : in64 x7) (hx9 : in64 x9) (M : Mm) (hF : f_m_worth_134 n x3 x5 x7 x9 M = some (r, M9)) : VJ LR w X 11 2 r M9 M [(3, .int (i32 x3)), (5, .long (i64 x5)), (7, .long (i64 x7)), (9, .long (i64 x9))] [] 134 := by
  have G := G0.1
  unfold f_m_worth_134 at hF
  refine vj_iload_n G (p9 := 0) d_m_worth_134 rfl rfl ?_
  refine vj_if_ne G (tgt := 146) d_m_worth_135 (by decide) hx3 (fun c1 => ?_) (fun c1 => ?_)
  · rw [if_pos c1] at hF
    refine vj_lload G (p9 := 2) d_m_worth_146 rfl ?_
    refine vj_lload G (p9 := 3) d_m_worth_148 rfl ?_
    obtain ⟨c2, hF⟩ := ck_some hF
    refine vj_ldiv G d_m_worth_150 hx9 c2 ?_
    cases hF
    exact vj_lret G0 (lr_dv _ _) d_m_worth_151
  · rw [if_neg c1] at hF
    refine vj_lload G (p9 := 1) d_m_worth_138 rfl ?_
    refine vj_lload G (p9 := 3) d_m_worth_140 rfl ?_
    obtain ⟨c3, hF⟩ := ck_some hF
    refine vj_ldiv G d_m_worth_142 hx9 c3 ?_
    refine vj_goto G (tgt := 151) d_m_worth_143 (by decide) ?_
    cases hF
    exact vj_lret G0 (lr_dv _ _) d_m_worth_151
set_option maxHeartbeats 4000000 in
set_option maxRecDepth 100000 in
theorem ct_m_worth {w : Wd} (hij : ij LR w) (n : Nat) (x1 x2 x3 : Int) (hx1 : inR x1) (hx2 : inR x2) (hx3 : inR x3) {M : Mm} {r : Int} {M9 : Mm} (hF : f_m_worth n x1 x2 x3 M = some (r, M9)) : Ct LR w y_m_worth b_m_worth 11 (some .long) 3 82 2 [.ref (wa w 0), .int (i32 x1), .int (i32 x2), .int (i32 x3)] M r M9 := by
  refine Ct.of hij KstR (by decide +kernel) (Nat.le_of_ble_eq_true rfl) (fun X G0 => ?_)
  have G := G0.1
  show VJ LR w X 11 2 r M9 M [(0, .ref (wa w 0)), (1, .int (i32 x1)), (2, .int (i32 x2)), (3, .int (i32 x3))] [] 0
  unfold f_m_worth at hF
  refine vj_aload_n G (p9 := 0) d_m_worth_0 rfl rfl ?_
  refine vj_iload_n G (p9 := 1) d_m_worth_1 rfl rfl ?_
  obtain ⟨r1, M1, e1, hF⟩ := bnd_some hF
  refine vj_callV3 G (ct_m_isFirm (gx_ij G) n x1 hx1 e1) lkR_0 clR_0 rfl q_1555 cq_m_isFirm rfl (by decide) (by decide) (Nat.le_of_ble_eq_true rfl) d_m_worth_2 rfl (fun hr1 => ?_)
  refine vj_if_eq G (tgt := 36) d_m_worth_5 (by decide) (ir_b hr1) (fun c2 => ?_) (fun c2 => ?_)
  · rw [if_pos c2] at hF
    refine vj_ldc2 G (v := (-9223372036854775808)) d_m_worth_36 q_1748 rfl ?_
    cases hF
    exact vj_lret G0 ⟨by decide, by decide⟩ d_m_worth_39
  · rw [if_neg c2] at hF
    refine vj_aload_n G (p9 := 0) d_m_worth_8 rfl rfl ?_
    refine vj_iload_n G (p9 := 2) d_m_worth_9 rfl rfl ?_
    obtain ⟨r3, M3, e3, hF⟩ := bnd_some hF
    refine vj_callV3 G (ct_m_isHolder (gx_ij G) n x2 hx2 e3) lkR_0 clR_0 rfl q_1559 cq_m_isHolder rfl (by decide) (by decide) (Nat.le_of_ble_eq_true rfl) d_m_worth_10 rfl (fun hr3 => ?_)
    refine vj_if_eq G (tgt := 36) d_m_worth_13 (by decide) (ir_b hr3) (fun c4 => ?_) (fun c4 => ?_)
    · rw [if_pos c4] at hF
      refine vj_ldc2 G (v := (-9223372036854775808)) d_m_worth_36 q_1748 rfl ?_
      cases hF
      exact vj_lret G0 ⟨by decide, by decide⟩ d_m_worth_39
    · rw [if_neg c4] at hF
      refine vj_aload_n G (p9 := 0) d_m_worth_16 rfl rfl ?_
      refine gfR_m_25 G d_m_worth_17 ?_
      refine vj_iload_n G (p9 := 2) d_m_worth_20 rfl rfl ?_
      obtain ⟨c5, hF⟩ := ck_some hF
      refine vj_iald G (x := x2) lkR_1 (by decide) c5 d_m_worth_21 ?_
      refine vj_mr (fun hM6 => ?_)
      refine vj_iconst G (v := 1) d_m_worth_22 rfl ?_
      refine vj_icmp_eq G (tgt := 36) d_m_worth_23 (by decide) (mr_a hM6 lkR_1) ic_1 (fun c7 => ?_) (fun c7 => ?_)
      · rw [if_pos c7] at hF
        refine vj_ldc2 G (v := (-9223372036854775808)) d_m_worth_36 q_1748 rfl ?_
        cases hF
        exact vj_lret G0 ⟨by decide, by decide⟩ d_m_worth_39
      · rw [if_neg c7] at hF
        refine vj_aload_n G (p9 := 0) d_m_worth_26 rfl rfl ?_
        refine vj_iload_n G (p9 := 3) d_m_worth_27 rfl rfl ?_
        refine vj_iconst G (v := 0) d_m_worth_28 rfl ?_
        refine vj_iconst G (v := 1) d_m_worth_29 rfl ?_
        obtain ⟨r8, M8, e8, hF⟩ := bnd_some hF
        refine vj_callV3 G (ct_m_in (gx_ij G) n x3 0 1 hx3 ic_0 ic_1 e8) lkR_0 clR_0 rfl q_1543 cq_m_in rfl (by decide) (by decide) (Nat.le_of_ble_eq_true rfl) d_m_worth_30 rfl (fun hr8 => ?_)
        refine vj_if_ne G (tgt := 40) d_m_worth_33 (by decide) (ir_b hr8) (fun c9 => ?_) (fun c9 => ?_)
        · rw [if_pos c9] at hF
          refine vj_aload_n G (p9 := 0) d_m_worth_40 rfl rfl ?_
          refine vj_aload_n G (p9 := 0) d_m_worth_41 rfl rfl ?_
          refine gfR_m_7 G d_m_worth_42 ?_
          refine vj_mr (fun hM10 => ?_)
          obtain ⟨r11, M11, e11, hF⟩ := bnd_some hF
          refine vj_callV0 G (ct_m_layOut (gx_ij G) n (M8 0 0) (mr_o hM10 lkR_0 flR_0_0) e11) lkR_0 clR_0 rfl q_1676 cq_m_layOut rfl (by decide) (by decide) (Nat.le_of_ble_eq_true rfl) d_m_worth_45 rfl (fun hr11 => ?_)
          refine vj_aload_n G (p9 := 0) d_m_worth_48 rfl rfl ?_
          obtain ⟨r12, M12, e12, hF⟩ := bnd_some hF
          refine vj_callV0 G (ct_m_findReach (gx_ij G) n   e12) lkR_0 clR_0 rfl q_1749 cq_m_findReach rfl (by decide) (by decide) (Nat.le_of_ble_eq_true rfl) d_m_worth_49 rfl (fun hr12 => ?_)
          refine vj_aload_n G (p9 := 0) d_m_worth_52 rfl rfl ?_
          refine gfR_m_176 G d_m_worth_53 ?_
          refine vj_iload_n G (p9 := 1) d_m_worth_56 rfl rfl ?_
          obtain ⟨c13, hF⟩ := ck_some hF
          refine vj_iald G (x := x1) lkR_35 (by decide) c13 d_m_worth_57 ?_
          refine vj_mr (fun hM14 => ?_)
          refine vj_if_ne G (tgt := 64) d_m_worth_58 (by decide) (mr_a hM14 lkR_35) (fun c15 => ?_) (fun c15 => ?_)
          · rw [if_pos c15] at hF
            refine vj_aload_n G (p9 := 0) d_m_worth_64 rfl rfl ?_
            refine vj_iload_n G (p9 := 2) d_m_worth_65 rfl rfl ?_
            obtain ⟨r16, M16, e16, hF⟩ := bnd_some hF
            refine vj_callV0 G (ct_m_putRows (gx_ij G) n x2 hx2 e16) lkR_0 clR_0 rfl q_1757 cq_m_putRows rfl (by decide) (by decide) (Nat.le_of_ble_eq_true rfl) d_m_worth_66 rfl (fun hr16 => ?_)
            refine vj_aload_n G (p9 := 0) d_m_worth_69 rfl rfl ?_
            obtain ⟨r17, M17, e17, hF⟩ := bnd_some hF
            refine vj_callV0 G (ct_m_solve (gx_ij G) n   e17) lkR_0 clR_0 rfl q_1774 cq_m_solve rfl (by decide) (by decide) (Nat.le_of_ble_eq_true rfl) d_m_worth_70 rfl (fun hr17 => ?_)
            refine vj_aload_n G (p9 := 0) d_m_worth_73 rfl rfl ?_
            refine vj_iload_n G (p9 := 1) d_m_worth_74 rfl rfl ?_
            obtain ⟨r18, M18, e18, hF⟩ := bnd_some hF
            refine vj_callV1 G (ct_m_placeOf (gx_ij G) n x1 hx1 e18) lkR_0 clR_0 rfl q_1762 cq_m_placeOf rfl (by decide) (by decide) (Nat.le_of_ble_eq_true rfl) d_m_worth_75 rfl (fun hr18 => ?_)
            refine vj_istore G (lv2 := [(4, .int (i32 r18)), (0, .ref (wa w 0)), (1, .int (i32 x1)), (2, .int (i32 x2)), (3, .int (i32 x3))]) d_m_worth_78 (by decide) rfl ?_
            refine vj_aload_n G (p9 := 1) d_m_worth_80 rfl rfl ?_
            refine gfR_m_169 G d_m_worth_81 ?_
            refine vj_bipush G (v := 8) d_m_worth_84 rfl ?_
            refine vj_iload G (p9 := 0) d_m_worth_86 rfl ?_
            refine vj_imul G d_m_worth_88 ?_
            refine vj_aload_n G (p9 := 1) d_m_worth_89 rfl rfl ?_
            refine gfR_m_179 G d_m_worth_90 ?_
            refine vj_mr (fun hM19 => ?_)
            refine vj_iadd G d_m_worth_93 ?_
            obtain ⟨c20, hF⟩ := ck_some hF
            refine vj_lald G (x := w32 ((w32 (8 * r18)) + (M18 0 55))) lkR_33 (by decide) c20 d_m_worth_94 ?_
            refine vj_lstore G (lv2 := [(5, .long (i64 (M18 33 (w32 ((w32 (8 * r18)) + (M18 0 55))).toNat))), (4, .int (i32 r18)), (0, .ref (wa w 0)), (1, .int (i32 x1)), (2, .int (i32 x2)), (3, .int (i32 x3))]) d_m_worth_95 (by decide) rfl ?_
            refine vj_aload_n G (p9 := 2) d_m_worth_97 rfl rfl ?_
            refine gfR_m_169 G d_m_worth_98 ?_
            refine vj_bipush G (v := 8) d_m_worth_101 rfl ?_
            refine vj_iload G (p9 := 1) d_m_worth_103 rfl ?_
            refine vj_imul G d_m_worth_105 ?_
            refine vj_iload G (p9 := 1) d_m_worth_106 rfl ?_
            refine vj_iadd G d_m_worth_108 ?_
            obtain ⟨c21, hF⟩ := ck_some hF
            refine vj_lald G (x := w32 ((w32 (8 * r18)) + r18)) lkR_33 (by decide) c21 d_m_worth_109 ?_
            refine vj_lstore G (lv2 := [(7, .long (i64 (M18 33 (w32 ((w32 (8 * r18)) + r18)).toNat))), (5, .long (i64 (M18 33 (w32 ((w32 (8 * r18)) + (M18 0 55))).toNat))), (4, .int (i32 r18)), (0, .ref (wa w 0)), (1, .int (i32 x1)), (2, .int (i32 x2)), (3, .int (i32 x3))]) d_m_worth_110 (by decide) rfl ?_
            refine vj_aload_n G (p9 := 3) d_m_worth_112 rfl rfl ?_
            refine vj_lload G (p9 := 1) d_m_worth_113 rfl ?_
            refine vj_lload G (p9 := 0) d_m_worth_115 rfl ?_
            obtain ⟨r22, M22, e22, hF⟩ := bnd_some hF
            refine vj_callV2 G (ct_m_divisor (gx_ij G) n (M18 33 (w32 ((w32 (8 * r18)) + (M18 0 55))).toNat) (M18 33 (w32 ((w32 (8 * r18)) + r18)).toNat) (mr_al hM19 lkR_33) (mr_al hM19 lkR_33) e22) lkR_0 clR_0 rfl q_1770 cq_m_divisor rfl (by decide) (by decide) (Nat.le_of_ble_eq_true rfl) d_m_worth_117 rfl (fun hr22 => ?_)
            refine vj_lstore G (lv2 := [(9, .long (i64 r22)), (7, .long (i64 (M18 33 (w32 ((w32 (8 * r18)) + r18)).toNat))), (5, .long (i64 (M18 33 (w32 ((w32 (8 * r18)) + (M18 0 55))).toNat))), (4, .int (i32 r18)), (0, .ref (wa w 0)), (1, .int (i32 x1)), (2, .int (i32 x2)), (3, .int (i32 x3))]) d_m_worth_120 (by decide) rfl ?_
            refine vj_lload G (p9 := 1) d_m_worth_122 rfl ?_
            refine vj_lconst G (v := 0) d_m_worth_124 rfl ?_
            refine vj_lcmp_ge G (tgt := 134) d_m_worth_125 d_m_worth_126 (by decide) (mr_al hM19 lkR_33) (lr_i ic_0) (fun c23 => ?_) (fun c23 => ?_)
            · rw [if_pos c23] at hF
              refine vj_sub [7, 2, 1, 0] rfl ?_
              exact wk_m_worth_134 G0 n  x3 (M18 33 (w32 ((w32 (8 * r18)) + (M18 0 55))).toNat) (M18 33 (w32 ((w32 (8 * r18)) + r18)).toNat) r22 hx3 (mr_al hM19 lkR_33) (mr_al hM19 lkR_33) hr22 _ hF
            · rw [if_neg c23] at hF
              refine vj_lload G (p9 := 0) d_m_worth_129 rfl ?_
              refine vj_lneg G d_m_worth_131 ?_
              refine vj_lstore G (lv2 := [(9, .long (i64 (w64 (-r22)))), (7, .long (i64 (M18 33 (w32 ((w32 (8 * r18)) + r18)).toNat))), (5, .long (i64 (M18 33 (w32 ((w32 (8 * r18)) + (M18 0 55))).toNat))), (4, .int (i32 r18)), (0, .ref (wa w 0)), (1, .int (i32 x1)), (2, .int (i32 x2)), (3, .int (i32 x3))]) d_m_worth_132 (by decide) rfl ?_
              refine vj_sub [7, 2, 1, 0] rfl ?_
              exact wk_m_worth_134 G0 n  x3 (M18 33 (w32 ((w32 (8 * r18)) + (M18 0 55))).toNat) (M18 33 (w32 ((w32 (8 * r18)) + r18)).toNat) (w64 (-r22)) hx3 (mr_al hM19 lkR_33) (mr_al hM19 lkR_33) (lr_w _) _ hF
          · rw [if_neg c15] at hF
            refine vj_iload_n G (p9 := 3) d_m_worth_61 rfl rfl ?_
            refine vj_i2l G d_m_worth_62 hx3 ?_
            cases hF
            exact vj_lret G0 (lr_i hx3) d_m_worth_63
        · rw [if_neg c9] at hF
          refine vj_ldc2 G (v := (-9223372036854775808)) d_m_worth_36 q_1748 rfl ?_
          cases hF
          exact vj_lret G0 ⟨by decide, by decide⟩ d_m_worth_39
set_option maxHeartbeats 4000000 in
set_option maxRecDepth 100000 in
theorem ct_m_hollow {w : Wd} (hij : ij LR w) (n : Nat) (x1 : Int) (hx1 : inR x1) {M : Mm} {r : Int} {M9 : Mm} (hF : f_m_hollow n x1 M = some (r, M9)) : Ct LR w y_m_hollow b_m_hollow 2 (some .int) 3 65 1 [.ref (wa w 0), .int (i32 x1)] M r M9 := by
  refine Ct.of hij KstR (by decide +kernel) (Nat.le_of_ble_eq_true rfl) (fun X G0 => ?_)
  have G := G0.1
  show VJ LR w X 2 1 r M9 M [(0, .ref (wa w 0)), (1, .int (i32 x1))] [] 0
  unfold f_m_hollow at hF
  refine vj_aload_n G (p9 := 0) d_m_hollow_0 rfl rfl ?_
  refine vj_iload_n G (p9 := 1) d_m_hollow_1 rfl rfl ?_
  obtain ⟨r1, M1, e1, hF⟩ := bnd_some hF
  refine vj_callV3 G (ct_m_isFirm (gx_ij G) n x1 hx1 e1) lkR_0 clR_0 rfl q_1555 cq_m_isFirm rfl (by decide) (by decide) (Nat.le_of_ble_eq_true rfl) d_m_hollow_2 rfl (fun hr1 => ?_)
  refine vj_if_ne G (tgt := 10) d_m_hollow_5 (by decide) (ir_b hr1) (fun c2 => ?_) (fun c2 => ?_)
  · rw [if_pos c2] at hF
    refine vj_aload_n G (p9 := 0) d_m_hollow_10 rfl rfl ?_
    refine vj_aload_n G (p9 := 0) d_m_hollow_11 rfl rfl ?_
    refine gfR_m_7 G d_m_hollow_12 ?_
    refine vj_mr (fun hM3 => ?_)
    obtain ⟨r4, M4, e4, hF⟩ := bnd_some hF
    refine vj_callV0 G (ct_m_layOut (gx_ij G) n (M1 0 0) (mr_o hM3 lkR_0 flR_0_0) e4) lkR_0 clR_0 rfl q_1676 cq_m_layOut rfl (by decide) (by decide) (Nat.le_of_ble_eq_true rfl) d_m_hollow_15 rfl (fun hr4 => ?_)
    refine vj_aload_n G (p9 := 0) d_m_hollow_18 rfl rfl ?_
    obtain ⟨r5, M5, e5, hF⟩ := bnd_some hF
    refine vj_callV0 G (ct_m_findReach (gx_ij G) n   e5) lkR_0 clR_0 rfl q_1749 cq_m_findReach rfl (by decide) (by decide) (Nat.le_of_ble_eq_true rfl) d_m_hollow_19 rfl (fun hr5 => ?_)
    refine vj_aload_n G (p9 := 0) d_m_hollow_22 rfl rfl ?_
    refine gfR_m_176 G d_m_hollow_23 ?_
    refine vj_iload_n G (p9 := 1) d_m_hollow_26 rfl rfl ?_
    obtain ⟨c6, hF⟩ := ck_some hF
    refine vj_iald G (x := x1) lkR_35 (by decide) c6 d_m_hollow_27 ?_
    refine vj_mr (fun hM7 => ?_)
    refine vj_iconst G (v := 1) d_m_hollow_28 rfl ?_
    refine vj_icmp_ne G (tgt := 36) d_m_hollow_29 (by decide) (mr_a hM7 lkR_35) ic_1 (fun c8 => ?_) (fun c8 => ?_)
    · rw [if_pos c8] at hF
      refine vj_iconst G (v := 1) d_m_hollow_36 rfl ?_
      cases hF
      exact vj_iret G0 ic_1 d_m_hollow_37
    · rw [if_neg c8] at hF
      refine vj_iconst G (v := 0) d_m_hollow_32 rfl ?_
      refine vj_goto G (tgt := 37) d_m_hollow_33 (by decide) ?_
      cases hF
      exact vj_iret G0 ic_0 d_m_hollow_37
  · rw [if_neg c2] at hF
    refine vj_iconst G (v := (-1)) d_m_hollow_8 rfl ?_
    cases hF
    exact vj_iret G0 ic_m1 d_m_hollow_9
set_option maxHeartbeats 4000000 in
set_option maxRecDepth 100000 in
theorem ct_m_headOf {w : Wd} (hij : ij LR w) (n : Nat) (x1 : Int) (hx1 : inR x1) {M : Mm} {r : Int} {M9 : Mm} (hF : f_m_headOf n x1 M = some (r, M9)) : Ct LR w y_m_headOf b_m_headOf 2 (some .int) 1 22 1 [.ref (wa w 0), .int (i32 x1)] M r M9 := by
  refine Ct.of hij KstR (by decide +kernel) (Nat.le_of_ble_eq_true rfl) (fun X G0 => ?_)
  have G := G0.1
  show VJ LR w X 2 1 r M9 M [(0, .ref (wa w 0)), (1, .int (i32 x1))] [] 0
  unfold f_m_headOf at hF
  refine vj_aload_n G (p9 := 0) d_m_headOf_0 rfl rfl ?_
  refine gfR_m_25 G d_m_headOf_1 ?_
  refine vj_iload_n G (p9 := 1) d_m_headOf_4 rfl rfl ?_
  obtain ⟨c1, hF⟩ := ck_some hF
  refine vj_iald G (x := x1) lkR_1 (by decide) c1 d_m_headOf_5 ?_
  refine vj_mr (fun hM2 => ?_)
  refine vj_iconst G (v := 1) d_m_headOf_6 rfl ?_
  refine vj_icmp_ne G (tgt := 32) d_m_headOf_7 (by decide) (mr_a hM2 lkR_1) ic_1 (fun c3 => ?_) (fun c3 => ?_)
  · rw [if_pos c3] at hF
    refine vj_aload_n G (p9 := 0) d_m_headOf_32 rfl rfl ?_
    refine gfR_m_25 G d_m_headOf_33 ?_
    refine vj_iload_n G (p9 := 1) d_m_headOf_36 rfl rfl ?_
    obtain ⟨c4, hF⟩ := ck_some hF
    refine vj_iald G (x := x1) lkR_1 (by decide) c4 d_m_headOf_37 ?_
    refine vj_mr (fun hM5 => ?_)
    refine vj_iconst G (v := 3) d_m_headOf_38 rfl ?_
    refine vj_icmp_ne G (tgt := 50) d_m_headOf_39 (by decide) (mr_a hM5 lkR_1) ic_3 (fun c6 => ?_) (fun c6 => ?_)
    · rw [if_pos c6] at hF
      refine vj_iload_n G (p9 := 1) d_m_headOf_50 rfl rfl ?_
      cases hF
      exact vj_iret G0 hx1 d_m_headOf_51
    · rw [if_neg c6] at hF
      refine vj_aload_n G (p9 := 0) d_m_headOf_42 rfl rfl ?_
      refine vj_iload_n G (p9 := 1) d_m_headOf_43 rfl rfl ?_
      obtain ⟨r7, M7, e7, hF⟩ := bnd_some hF
      refine vj_callV1 G (ct_m_leastKin (gx_ij G) n x1 hx1 e7) lkR_0 clR_0 rfl q_1712 cq_m_leastKin rfl (by decide) (by decide) (Nat.le_of_ble_eq_true rfl) d_m_headOf_44 rfl (fun hr7 => ?_)
      refine vj_goto G (tgt := 51) d_m_headOf_47 (by decide) ?_
      cases hF
      exact vj_iret G0 hr7 d_m_headOf_51
  · rw [if_neg c3] at hF
    refine vj_aload_n G (p9 := 0) d_m_headOf_10 rfl rfl ?_
    refine gfR_m_151 G d_m_headOf_11 ?_
    refine vj_iload_n G (p9 := 1) d_m_headOf_14 rfl rfl ?_
    obtain ⟨c8, hF⟩ := ck_some hF
    refine vj_iald G (x := x1) lkR_29 (by decide) c8 d_m_headOf_15 ?_
    refine vj_mr (fun hM9 => ?_)
    refine vj_if_ge G (tgt := 23) d_m_headOf_16 (by decide) (mr_a hM9 lkR_29) (fun c10 => ?_) (fun c10 => ?_)
    · rw [if_pos c10] at hF
      refine vj_aload_n G (p9 := 0) d_m_headOf_23 rfl rfl ?_
      refine gfR_m_151 G d_m_headOf_24 ?_
      refine vj_iload_n G (p9 := 1) d_m_headOf_27 rfl rfl ?_
      obtain ⟨c11, hF⟩ := ck_some hF
      refine vj_iald G (x := x1) lkR_29 (by decide) c11 d_m_headOf_28 ?_
      refine vj_mr (fun hM12 => ?_)
      refine vj_goto G (tgt := 51) d_m_headOf_29 (by decide) ?_
      cases hF
      exact vj_iret G0 (mr_a hM12 lkR_29) d_m_headOf_51
    · rw [if_neg c10] at hF
      refine vj_iload_n G (p9 := 1) d_m_headOf_19 rfl rfl ?_
      refine vj_goto G (tgt := 51) d_m_headOf_20 (by decide) ?_
      cases hF
      exact vj_iret G0 hx1 d_m_headOf_51
set_option maxHeartbeats 4000000 in
set_option maxRecDepth 100000 in
theorem wk_m_pivot_271 {w : Wd} {X : Cx} {r : Int} {M9 : Mm} (G0 : Gx LR w X "WhoRulesModel" b_m_pivot 9 11 249 (some .int)) (n : Nat) (k187 : Int → Int → Int → Int → Int → Mm → Rr) (hk187 : ∀ (x1 x3 x4 x5 x6 : Int) (hx1 : inR x1) (hx3 : inR x3) (hx4 : inR x4) (hx5 : inR x5) (hx6 : inR x6) (M : Mm), k187 x1 x3 x4 x5 x6 M = some (r, M9) → VJ LR w X 9 1 r M9 M [(0, .ref (wa w 0)), (1, .int (i32 x1)), (3, .int (i32 x3)), (4, .int (i32 x4)), (5, .int (i32 x5)), (6, .int (i32 x6))] [] 187) (x1 x3 x4 x6 s0 s1 : Int) (hx1 : inR x1) (hx3 : inR x3) (hx4 : inR x4) (hx6 : inR x6) (hs0 : inR s0) (hs1 : inB s1) (M : Mm) (hF : f_m_pivot_271 n k187 x1 x3 x4 x6 s0 s1 M = some (r, M9)) : VJ LR w X 9 1 r M9 M [(0, .ref (wa w 0)), (1, .int (i32 x1)), (3, .int (i32 x3)), (4, .int (i32 x4)), (6, .int (i32 x6))] [.int (i32 s1), .int (i32 s0)] 271 := by
  have G := G0.1
  unfold f_m_pivot_271 at hF
  refine vj_iadd G d_m_pivot_271 ?_
  refine vj_istore G (lv2 := [(5, .int (i32 (w32 (s0 + s1)))), (0, .ref (wa w 0)), (1, .int (i32 x1)), (3, .int (i32 x3)), (4, .int (i32 x4)), (6, .int (i32 x6))]) d_m_pivot_272 (by decide) rfl ?_
  refine vj_iinc G (p9 := 5) (n := 1) (lv2 := [(6, .int (i32 (w32 (x6 + 1)))), (5, .int (i32 (w32 (s0 + s1)))), (0, .ref (wa w 0)), (1, .int (i32 x1)), (3, .int (i32 x3)), (4, .int (i32 x4))]) d_m_pivot_274 rfl (by decide) rfl ?_
  refine vj_goto G (tgt := 187) d_m_pivot_277 (by decide) ?_
  refine vj_sub [2, 3, 4, 5, 1, 0] rfl ?_
  exact hk187 x1 x3 x4 (w32 (s0 + s1)) (w32 (x6 + 1)) hx1 hx3 hx4 (ir_w _) (ir_w _) _ hF
set_option maxHeartbeats 4000000 in
set_option maxRecDepth 100000 in
theorem wk_m_pivot_270 {w : Wd} {X : Cx} {r : Int} {M9 : Mm} (G0 : Gx LR w X "WhoRulesModel" b_m_pivot 9 11 249 (some .int)) (n : Nat) (k187 : Int → Int → Int → Int → Int → Mm → Rr) (hk187 : ∀ (x1 x3 x4 x5 x6 : Int) (hx1 : inR x1) (hx3 : inR x3) (hx4 : inR x4) (hx5 : inR x5) (hx6 : inR x6) (M : Mm), k187 x1 x3 x4 x5 x6 M = some (r, M9) → VJ LR w X 9 1 r M9 M [(0, .ref (wa w 0)), (1, .int (i32 x1)), (3, .int (i32 x3)), (4, .int (i32 x4)), (5, .int (i32 x5)), (6, .int (i32 x6))] [] 187) (x1 x3 x4 x6 s0 : Int) (hx1 : inR x1) (hx3 : inR x3) (hx4 : inR x4) (hx6 : inR x6) (hs0 : inR s0) (M : Mm) (hF : f_m_pivot_270 n k187 x1 x3 x4 x6 s0 M = some (r, M9)) : VJ LR w X 9 1 r M9 M [(0, .ref (wa w 0)), (1, .int (i32 x1)), (3, .int (i32 x3)), (4, .int (i32 x4)), (6, .int (i32 x6))] [.int (i32 s0)] 270 := by
  have G := G0.1
  unfold f_m_pivot_270 at hF
  refine vj_iconst G (v := 0) d_m_pivot_270 rfl ?_
  exact wk_m_pivot_271 G0 n k187 hk187 x1 x3 x4 x6 s0 0 hx1 hx3 hx4 hx6 hs0 (Or.inl rfl) _ hF
set_option maxHeartbeats 4000000 in
set_option maxRecDepth 100000 in
theorem wk_m_pivot_233 {w : Wd} {X : Cx} {r : Int} {M9 : Mm} (G0 : Gx LR w X "WhoRulesModel" b_m_pivot 9 11 249 (some .int)) (n : Nat) (k187 : Int → Int → Int → Int → Int → Mm → Rr) (hk187 : ∀ (x1 x3 x4 x5 x6 : Int) (hx1 : inR x1) (hx3 : inR x3) (hx4 : inR x4) (hx5 : inR x5) (hx6 : inR x6) (M : Mm), k187 x1 x3 x4 x5 x6 M = some (r, M9) → VJ LR w X 9 1 r M9 M [(0, .ref (wa w 0)), (1, .int (i32 x1)), (3, .int (i32 x3)), (4, .int (i32 x4)), (5, .int (i32 x5)), (6, .int (i32 x6))] [] 187) (k202 : Int → Int → Int → Int → Int → Int → Int → Mm → Rr) (hk202 : ∀ (x1 x3 x4 x5 x6 x7 x8 : Int) (hx1 : inR x1) (hx3 : inR x3) (hx4 : inR x4) (hx5 : inR x5) (hx6 : inR x6) (hx7 : inR x7) (hx8 : inR x8) (M : Mm), k202 x1 x3 x4 x5 x6 x7 x8 M = some (r, M9) → VJ LR w X 9 1 r M9 M [(0, .ref (wa w 0)), (1, .int (i32 x1)), (3, .int (i32 x3)), (4, .int (i32 x4)), (5, .int (i32 x5)), (6, .int (i32 x6)), (7, .int (i32 x7)), (8, .int (i32 x8))] [] 202) (x1 x3 x4 x5 x6 x8 s0 s1 : Int) (hx1 : inR x1) (hx3 : inR x3) (hx4 : inR x4) (hx5 : inR x5) (hx6 : inR x6) (hx8 : inR x8) (hs0 : inR s0) (hs1 : inR s1) (M : Mm) (hF : f_m_pivot_233 n k187 k202 x1 x3 x4 x5 x6 x8 s0 s1 M = some (r, M9)) : VJ LR w X 9 1 r M9 M [(0, .ref (wa w 0)), (1, .int (i32 x1)), (3, .int (i32 x3)), (4, .int (i32 x4)), (5, .int (i32 x5)), (6, .int (i32 x6)), (8, .int (i32 x8))] [.int (i32 s1), .int (i32 s0)] 233 := by
  have G := G0.1
  unfold f_m_pivot_233 at hF
  refine vj_ior G d_m_pivot_233 ?_
  refine vj_istore G (lv2 := [(7, .int (i32 (ior s0 s1))), (0, .ref (wa w 0)), (1, .int (i32 x1)), (3, .int (i32 x3)), (4, .int (i32 x4)), (5, .int (i32 x5)), (6, .int (i32 x6)), (8, .int (i32 x8))]) d_m_pivot_234 (by decide) rfl ?_
  refine vj_iinc G (p9 := 7) (n := 1) (lv2 := [(8, .int (i32 (w32 (x8 + 1)))), (7, .int (i32 (ior s0 s1))), (0, .ref (wa w 0)), (1, .int (i32 x1)), (3, .int (i32 x3)), (4, .int (i32 x4)), (5, .int (i32 x5)), (6, .int (i32 x6))]) d_m_pivot_236 rfl (by decide) rfl ?_
  refine vj_goto G (tgt := 202) d_m_pivot_239 (by decide) ?_
  refine vj_sub [2, 3, 4, 5, 6, 7, 1, 0] rfl ?_
  exact hk202 x1 x3 x4 x5 x6 (ior s0 s1) (w32 (x8 + 1)) hx1 hx3 hx4 hx5 hx6 (ir_or _ _) (ir_w _) _ hF
set_option maxHeartbeats 4000000 in
set_option maxRecDepth 100000 in
theorem wk_m_pivot_202 {w : Wd} {X : Cx} {r : Int} {M9 : Mm} (G0 : Gx LR w X "WhoRulesModel" b_m_pivot 9 11 249 (some .int)) (n : Nat) (k187 : Int → Int → Int → Int → Int → Mm → Rr) (hk187 : ∀ (x1 x3 x4 x5 x6 : Int) (hx1 : inR x1) (hx3 : inR x3) (hx4 : inR x4) (hx5 : inR x5) (hx6 : inR x6) (M : Mm), k187 x1 x3 x4 x5 x6 M = some (r, M9) → VJ LR w X 9 1 r M9 M [(0, .ref (wa w 0)), (1, .int (i32 x1)), (3, .int (i32 x3)), (4, .int (i32 x4)), (5, .int (i32 x5)), (6, .int (i32 x6))] [] 187) (k202 : Int → Int → Int → Int → Int → Int → Int → Mm → Rr) (hk202 : ∀ (x1 x3 x4 x5 x6 x7 x8 : Int) (hx1 : inR x1) (hx3 : inR x3) (hx4 : inR x4) (hx5 : inR x5) (hx6 : inR x6) (hx7 : inR x7) (hx8 : inR x8) (M : Mm), k202 x1 x3 x4 x5 x6 x7 x8 M = some (r, M9) → VJ LR w X 9 1 r M9 M [(0, .ref (wa w 0)), (1, .int (i32 x1)), (3, .int (i32 x3)), (4, .int (i32 x4)), (5, .int (i32 x5)), (6, .int (i32 x6)), (7, .int (i32 x7)), (8, .int (i32 x8))] [] 202) (x1 x3 x4 x5 x6 x7 x8 : Int) (hx1 : inR x1) (hx3 : inR x3) (hx4 : inR x4) (hx5 : inR x5) (hx6 : inR x6) (hx7 : inR x7) (hx8 : inR x8) (M : Mm) (hF : f_m_pivot_202 n k187 k202 x1 x3 x4 x5 x6 x7 x8 M = some (r, M9)) : VJ LR w X 9 1 r M9 M [(0, .ref (wa w 0)), (1, .int (i32 x1)), (3, .int (i32 x3)), (4, .int (i32 x4)), (5, .int (i32 x5)), (6, .int (i32 x6)), (7, .int (i32 x7)), (8, .int (i32 x8))] [] 202 := by
  have G := G0.1
  unfold f_m_pivot_202 at hF
  refine vj_iload G (p9 := 7) d_m_pivot_202 rfl ?_
  refine vj_iload G (p9 := 3) d_m_pivot_204 rfl ?_
  refine vj_icmp_ge G (tgt := 242) d_m_pivot_206 (by decide) hx8 hx4 (fun c1 => ?_) (fun c1 => ?_)
  · rw [if_pos c1] at hF
    refine vj_iload G (p9 := 4) d_m_pivot_242 rfl ?_
    refine vj_aload_n G (p9 := 0) d_m_pivot_244 rfl rfl ?_
    refine vj_iload_n G (p9 := 1) d_m_pivot_245 rfl rfl ?_
    refine vj_iload G (p9 := 6) d_m_pivot_246 rfl ?_
    refine vj_iload_n G (p9 := 2) d_m_pivot_248 rfl rfl ?_
    refine vj_ior G d_m_pivot_249 ?_
    obtain ⟨r2, M2, e2, hF⟩ := bnd_some hF
    refine vj_callV3 G (ct_m_carries (gx_ij G) n x1 (ior x7 x3) hx1 (ir_or _ _) e2) lkR_0 clR_0 rfl q_1688 cq_m_carries rfl (by decide) (by decide) (Nat.le_of_ble_eq_true rfl) d_m_pivot_250 rfl (fun hr2 => ?_)
    refine vj_if_eq G (tgt := 270) d_m_pivot_253 (by decide) (ir_b hr2) (fun c3 => ?_) (fun c3 => ?_)
    · rw [if_pos c3] at hF
      refine vj_sub [0, 1, 2, 3, 5] rfl ?_
      exact wk_m_pivot_270 G0 n k187 hk187 x1 x3 x4 x6 x5 hx1 hx3 hx4 hx6 hx5 _ hF
    · rw [if_neg c3] at hF
      refine vj_aload_n G (p9 := 0) d_m_pivot_256 rfl rfl ?_
      refine vj_iload_n G (p9 := 1) d_m_pivot_257 rfl rfl ?_
      refine vj_iload G (p9 := 6) d_m_pivot_258 rfl ?_
      obtain ⟨r4, M4, e4, hF⟩ := bnd_some hF
      refine vj_callV3 G (ct_m_carries (gx_ij G) n x1 x7 hx1 hx7 e4) lkR_0 clR_0 rfl q_1688 cq_m_carries rfl (by decide) (by decide) (Nat.le_of_ble_eq_true rfl) d_m_pivot_260 rfl (fun hr4 => ?_)
      refine vj_if_ne G (tgt := 270) d_m_pivot_263 (by decide) (ir_b hr4) (fun c5 => ?_) (fun c5 => ?_)
      · rw [if_pos c5] at hF
        refine vj_sub [0, 1, 2, 3, 5] rfl ?_
        exact wk_m_pivot_270 G0 n k187 hk187 x1 x3 x4 x6 x5 hx1 hx3 hx4 hx6 hx5 _ hF
      · rw [if_neg c5] at hF
        refine vj_iconst G (v := 1) d_m_pivot_266 rfl ?_
        refine vj_goto G (tgt := 271) d_m_pivot_267 (by decide) ?_
        refine vj_sub [0, 1, 2, 3, 5] rfl ?_
        exact wk_m_pivot_271 G0 n k187 hk187 x1 x3 x4 x6 x5 1 hx1 hx3 hx4 hx6 hx5 (Or.inr rfl) _ hF
  · rw [if_neg c1] at hF
    refine vj_iload G (p9 := 6) d_m_pivot_209 rfl ?_
    refine vj_iload G (p9 := 5) d_m_pivot_211 rfl ?_
    refine vj_iload G (p9 := 7) d_m_pivot_213 rfl ?_
    refine vj_ishr G d_m_pivot_215 ?_
    refine vj_iconst G (v := 1) d_m_pivot_216 rfl ?_
    refine vj_iand G d_m_pivot_217 ?_
    refine vj_iconst G (v := 1) d_m_pivot_218 rfl ?_
    refine vj_icmp_ne G (tgt := 232) d_m_pivot_219 (by decide) (ir_an _ _) ic_1 (fun c6 => ?_) (fun c6 => ?_)
    · rw [if_pos c6] at hF
      refine vj_iconst G (v := 0) d_m_pivot_232 rfl ?_
      refine vj_sub [0, 1, 2, 3, 4, 5, 7] rfl ?_
      exact wk_m_pivot_233 G0 n k187 hk187 k202 hk202 x1 x3 x4 x5 x6 x8 x7 0 hx1 hx3 hx4 hx5 hx6 hx8 hx7 ic_0 _ hF
    · rw [if_neg c6] at hF
      refine vj_aload_n G (p9 := 0) d_m_pivot_222 rfl rfl ?_
      refine gfR_m_185 G d_m_pivot_223 ?_
      refine vj_iload G (p9 := 7) d_m_pivot_226 rfl ?_
      obtain ⟨c7, hF⟩ := ck_some hF
      refine vj_iald G (x := x8) lkR_37 (by decide) c7 d_m_pivot_228 ?_
      refine vj_mr (fun hM8 => ?_)
      refine vj_goto G (tgt := 233) d_m_pivot_229 (by decide) ?_
      refine vj_sub [0, 1, 2, 3, 4, 5, 7] rfl ?_
      exact wk_m_pivot_233 G0 n k187 hk187 k202 hk202 x1 x3 x4 x5 x6 x8 x7 (M 37 x8.toNat) hx1 hx3 hx4 hx5 hx6 hx8 hx7 (mr_a hM8 lkR_37) _ hF
set_option maxHeartbeats 4000000 in
set_option maxRecDepth 100000 in
theorem wl_m_pivot_202 {w : Wd} {X : Cx} {r : Int} {M9 : Mm} (G0 : Gx LR w X "WhoRulesModel" b_m_pivot 9 11 249 (some .int)) (n : Nat) (k187 : Int → Int → Int → Int → Int → Mm → Rr) (hk187 : ∀ (x1 x3 x4 x5 x6 : Int) (hx1 : inR x1) (hx3 : inR x3) (hx4 : inR x4) (hx5 : inR x5) (hx6 : inR x6) (M : Mm), k187 x1 x3 x4 x5 x6 M = some (r, M9) → VJ LR w X 9 1 r M9 M [(0, .ref (wa w 0)), (1, .int (i32 x1)), (3, .int (i32 x3)), (4, .int (i32 x4)), (5, .int (i32 x5)), (6, .int (i32 x6))] [] 187) : ∀ (f : Nat) (x1 x3 x4 x5 x6 x7 x8 : Int) (hx1 : inR x1) (hx3 : inR x3) (hx4 : inR x4) (hx5 : inR x5) (hx6 : inR x6) (hx7 : inR x7) (hx8 : inR x8) (M : Mm), lp_m_pivot_202 n k187 f x1 x3 x4 x5 x6 x7 x8 M = some (r, M9) → VJ LR w X 9 1 r M9 M [(0, .ref (wa w 0)), (1, .int (i32 x1)), (3, .int (i32 x3)), (4, .int (i32 x4)), (5, .int (i32 x5)), (6, .int (i32 x6)), (7, .int (i32 x7)), (8, .int (i32 x8))] [] 202 := by
  intro f
  induction f with
  | zero => intro x1 x3 x4 x5 x6 x7 x8 hx1 hx3 hx4 hx5 hx6 hx7 hx8 M hF; cases hF
  | succ f ih => intro x1 x3 x4 x5 x6 x7 x8 hx1 hx3 hx4 hx5 hx6 hx7 hx8 M hF; exact wk_m_pivot_202 G0 n k187 hk187 (lp_m_pivot_202 n k187 f) ih x1 x3 x4 x5 x6 x7 x8 hx1 hx3 hx4 hx5 hx6 hx7 hx8 M hF
set_option maxHeartbeats 4000000 in
set_option maxRecDepth 100000 in
theorem wk_m_pivot_187 {w : Wd} {X : Cx} {r : Int} {M9 : Mm} (G0 : Gx LR w X "WhoRulesModel" b_m_pivot 9 11 249 (some .int)) (n : Nat) (k187 : Int → Int → Int → Int → Int → Mm → Rr) (hk187 : ∀ (x1 x3 x4 x5 x6 : Int) (hx1 : inR x1) (hx3 : inR x3) (hx4 : inR x4) (hx5 : inR x5) (hx6 : inR x6) (M : Mm), k187 x1 x3 x4 x5 x6 M = some (r, M9) → VJ LR w X 9 1 r M9 M [(0, .ref (wa w 0)), (1, .int (i32 x1)), (3, .int (i32 x3)), (4, .int (i32 x4)), (5, .int (i32 x5)), (6, .int (i32 x6))] [] 187) (x1 x3 x4 x5 x6 : Int) (hx1 : inR x1) (hx3 : inR x3) (hx4 : inR x4) (hx5 : inR x5) (hx6 : inR x6) (M : Mm) (hF : f_m_pivot_187 n k187 x1 x3 x4 x5 x6 M = some (r, M9)) : VJ LR w X 9 1 r M9 M [(0, .ref (wa w 0)), (1, .int (i32 x1)), (3, .int (i32 x3)), (4, .int (i32 x4)), (5, .int (i32 x5)), (6, .int (i32 x6))] [] 187 := by
  have G := G0.1
  unfold f_m_pivot_187 at hF
  refine vj_iload G (p9 := 5) d_m_pivot_187 rfl ?_
  refine vj_iconst G (v := 1) d_m_pivot_189 rfl ?_
  refine vj_iload G (p9 := 3) d_m_pivot_190 rfl ?_
  refine vj_ishl G d_m_pivot_192 ?_
  refine vj_icmp_ge G (tgt := 280) d_m_pivot_193 (by decide) hx6 (ir_sh _ _) (fun c1 => ?_) (fun c1 => ?_)
  · rw [if_pos c1] at hF
    refine vj_iload G (p9 := 4) d_m_pivot_280 rfl ?_
    cases hF
    exact vj_iret G0 hx5 d_m_pivot_282
  · rw [if_neg c1] at hF
    refine vj_iconst G (v := 0) d_m_pivot_196 rfl ?_
    refine vj_istore G (lv2 := [(7, .int (i32 0)), (0, .ref (wa w 0)), (1, .int (i32 x1)), (3, .int (i32 x3)), (4, .int (i32 x4)), (5, .int (i32 x5)), (6, .int (i32 x6))]) d_m_pivot_197 (by decide) rfl ?_
    refine vj_iconst G (v := 0) d_m_pivot_199 rfl ?_
    refine vj_istore G (lv2 := [(8, .int (i32 0)), (7, .int (i32 0)), (0, .ref (wa w 0)), (1, .int (i32 x1)), (3, .int (i32 x3)), (4, .int (i32 x4)), (5, .int (i32 x5)), (6, .int (i32 x6))]) d_m_pivot_200 (by decide) rfl ?_
    refine vj_sub [2, 3, 4, 5, 6, 7, 1, 0] rfl ?_
    exact wl_m_pivot_202 G0 n k187 hk187 n x1 x3 x4 x5 x6 0 0 hx1 hx3 hx4 hx5 hx6 ic_0 ic_0 _ hF
set_option maxHeartbeats 4000000 in
set_option maxRecDepth 100000 in
theorem wl_m_pivot_187 {w : Wd} {X : Cx} {r : Int} {M9 : Mm} (G0 : Gx LR w X "WhoRulesModel" b_m_pivot 9 11 249 (some .int)) (n : Nat) : ∀ (f : Nat) (x1 x3 x4 x5 x6 : Int) (hx1 : inR x1) (hx3 : inR x3) (hx4 : inR x4) (hx5 : inR x5) (hx6 : inR x6) (M : Mm), lp_m_pivot_187 n f x1 x3 x4 x5 x6 M = some (r, M9) → VJ LR w X 9 1 r M9 M [(0, .ref (wa w 0)), (1, .int (i32 x1)), (3, .int (i32 x3)), (4, .int (i32 x4)), (5, .int (i32 x5)), (6, .int (i32 x6))] [] 187 := by
  intro f
  induction f with
  | zero => intro x1 x3 x4 x5 x6 hx1 hx3 hx4 hx5 hx6 M hF; cases hF
  | succ f ih => intro x1 x3 x4 x5 x6 hx1 hx3 hx4 hx5 hx6 M hF; exact wk_m_pivot_187 G0 n (lp_m_pivot_187 n f) ih x1 x3 x4 x5 x6 hx1 hx3 hx4 hx5 hx6 M hF
set_option maxHeartbeats 4000000 in
set_option maxRecDepth 100000 in
theorem wk_m_pivot_175 {w : Wd} {X : Cx} {r : Int} {M9 : Mm} (G0 : Gx LR w X "WhoRulesModel" b_m_pivot 9 11 249 (some .int)) (n : Nat) (k126 : Int → Int → Int → Int → Int → Mm → Rr) (hk126 : ∀ (x1 x2 x3 x4 x5 : Int) (hx1 : inR x1) (hx2 : inR x2) (hx3 : inR x3) (hx4 : inR x4) (hx5 : inR x5) (M : Mm), k126 x1 x2 x3 x4 x5 M = some (r, M9) → VJ LR w X 9 1 r M9 M [(0, .ref (wa w 0)), (1, .int (i32 x1)), (2, .int (i32 x2)), (3, .int (i32 x3)), (4, .int (i32 x4)), (5, .int (i32 x5))] [] 126) (x1 x2 x3 x4 x5 : Int) (hx1 : inR x1) (hx2 : inR x2) (hx3 : inR x3) (hx4 : inR x4) (hx5 : inR x5) (M : Mm) (hF : f_m_pivot_175 n k126 x1 x2 x3 x4 x5 M = some (r, M9)) : VJ LR w X 9 1 r M9 M [(0, .ref (wa w 0)), (1, .int (i32 x1)), (2, .int (i32 x2)), (3, .int (i32 x3)), (4, .int (i32 x4)), (5, .int (i32 x5))] [] 175 := by
  have G := G0.1
  unfold f_m_pivot_175 at hF
  refine vj_iinc G (p9 := 5) (n := 1) (lv2 := [(5, .int (i32 (w32 (x5 + 1)))), (0, .ref (wa w 0)), (1, .int (i32 x1)), (2, .int (i32 x2)), (3, .int (i32 x3)), (4, .int (i32 x4))]) d_m_pivot_175 rfl (by decide) rfl ?_
  refine vj_goto G (tgt := 126) d_m_pivot_178 (by decide) ?_
  refine vj_sub [1, 2, 3, 4, 5, 0] rfl ?_
  exact hk126 x1 x2 x3 x4 (w32 (x5 + 1)) hx1 hx2 hx3 hx4 (ir_w _) _ hF
set_option maxHeartbeats 4000000 in
set_option maxRecDepth 100000 in
theorem wk_m_pivot_126 {w : Wd} {X : Cx} {r : Int} {M9 : Mm} (G0 : Gx LR w X "WhoRulesModel" b_m_pivot 9 11 249 (some .int)) (n : Nat) (k126 : Int → Int → Int → Int → Int → Mm → Rr) (hk126 : ∀ (x1 x2 x3 x4 x5 : Int) (hx1 : inR x1) (hx2 : inR x2) (hx3 : inR x3) (hx4 : inR x4) (hx5 : inR x5) (M : Mm), k126 x1 x2 x3 x4 x5 M = some (r, M9) → VJ LR w X 9 1 r M9 M [(0, .ref (wa w 0)), (1, .int (i32 x1)), (2, .int (i32 x2)), (3, .int (i32 x3)), (4, .int (i32 x4)), (5, .int (i32 x5))] [] 126) (x1 x2 x3 x4 x5 : Int) (hx1 : inR x1) (hx2 : inR x2) (hx3 : inR x3) (hx4 : inR x4) (hx5 : inR x5) (M : Mm) (hF : f_m_pivot_126 n k126 x1 x2 x3 x4 x5 M = some (r, M9)) : VJ LR w X 9 1 r M9 M [(0, .ref (wa w 0)), (1, .int (i32 x1)), (2, .int (i32 x2)), (3, .int (i32 x3)), (4, .int (i32 x4)), (5, .int (i32 x5))] [] 126 := by
  have G := G0.1
  unfold f_m_pivot_126 at hF
  refine vj_iload G (p9 := 5) d_m_pivot_126 rfl ?_
  refine vj_aload_n G (p9 := 0) d_m_pivot_128 rfl rfl ?_
  refine gfR_m_13 G d_m_pivot_129 ?_
  refine vj_mr (fun hM1 => ?_)
  refine vj_icmp_ge G (tgt := 181) d_m_pivot_132 (by decide) hx5 (mr_o hM1 lkR_0 flR_0_1) (fun c2 => ?_) (fun c2 => ?_)
  · rw [if_pos c2] at hF
    refine vj_iconst G (v := 0) d_m_pivot_181 rfl ?_
    refine vj_istore G (lv2 := [(5, .int (i32 0)), (0, .ref (wa w 0)), (1, .int (i32 x1)), (2, .int (i32 x2)), (3, .int (i32 x3)), (4, .int (i32 x4))]) d_m_pivot_182 (by decide) rfl ?_
    refine vj_iconst G (v := 0) d_m_pivot_184 rfl ?_
    refine vj_istore G (lv2 := [(6, .int (i32 0)), (5, .int (i32 0)), (0, .ref (wa w 0)), (1, .int (i32 x1)), (2, .int (i32 x2)), (3, .int (i32 x3)), (4, .int (i32 x4))]) d_m_pivot_185 (by decide) rfl ?_
    refine vj_sub [2, 3, 5, 6, 1, 0] rfl ?_
    exact wl_m_pivot_187 G0 n  n x1 x3 x4 0 0 hx1 hx3 hx4 ic_0 ic_0 _ hF
  · rw [if_neg c2] at hF
    refine vj_aload_n G (p9 := 0) d_m_pivot_135 rfl rfl ?_
    refine gfR_m_182 G d_m_pivot_136 ?_
    refine vj_iload G (p9 := 5) d_m_pivot_139 rfl ?_
    obtain ⟨c3, hF⟩ := ck_some hF
    refine vj_iald G (x := x5) lkR_36 (by decide) c3 d_m_pivot_141 ?_
    refine vj_mr (fun hM4 => ?_)
    refine vj_if_eq G (tgt := 175) d_m_pivot_142 (by decide) (mr_a hM4 lkR_36) (fun c5 => ?_) (fun c5 => ?_)
    · rw [if_pos c5] at hF
      exact wk_m_pivot_175 G0 n k126 hk126 x1 x2 x3 x4 x5 hx1 hx2 hx3 hx4 hx5 _ hF
    · rw [if_neg c5] at hF
      refine vj_iload G (p9 := 5) d_m_pivot_145 rfl ?_
      refine vj_aload_n G (p9 := 0) d_m_pivot_147 rfl rfl ?_
      refine vj_iload_n G (p9 := 2) d_m_pivot_148 rfl rfl ?_
      obtain ⟨r6, M6, e6, hF⟩ := bnd_some hF
      refine vj_callV1 G (ct_m_headOf (gx_ij G) n x2 hx2 e6) lkR_0 clR_0 rfl q_1786 cq_m_headOf rfl (by decide) (by decide) (Nat.le_of_ble_eq_true rfl) d_m_pivot_149 rfl (fun hr6 => ?_)
      refine vj_icmp_ne G (tgt := 158) d_m_pivot_152 (by decide) hx5 hr6 (fun c7 => ?_) (fun c7 => ?_)
      · rw [if_pos c7] at hF
        refine vj_aload_n G (p9 := 0) d_m_pivot_158 rfl rfl ?_
        refine gfR_m_185 G d_m_pivot_159 ?_
        refine vj_iload G (p9 := 4) d_m_pivot_162 rfl ?_
        refine vj_aload_n G (p9 := 0) d_m_pivot_164 rfl rfl ?_
        refine gfR_m_182 G d_m_pivot_165 ?_
        refine vj_iload G (p9 := 5) d_m_pivot_168 rfl ?_
        obtain ⟨c8, hF⟩ := ck_some hF
        refine vj_iald G (x := x5) lkR_36 (by decide) c8 d_m_pivot_170 ?_
        refine vj_mr (fun hM9 => ?_)
        obtain ⟨c10, hF⟩ := ck_some hF
        refine vj_iast G (x := x4) lkR_37 (by decide) (by decide) (by decide) c10 (mr_a hM9 lkR_36) d_m_pivot_171 ?_
        refine vj_iinc G (p9 := 4) (n := 1) (lv2 := [(4, .int (i32 (w32 (x4 + 1)))), (0, .ref (wa w 0)), (1, .int (i32 x1)), (2, .int (i32 x2)), (3, .int (i32 x3)), (5, .int (i32 x5))]) d_m_pivot_172 rfl (by decide) rfl ?_
        refine vj_sub [1, 2, 3, 4, 0, 5] rfl ?_
        exact wk_m_pivot_175 G0 n k126 hk126 x1 x2 x3 (w32 (x4 + 1)) x5 hx1 hx2 hx3 (ir_w _) hx5 _ hF
      · rw [if_neg c7] at hF
        refine vj_goto G (tgt := 175) d_m_pivot_155 (by decide) ?_
        exact wk_m_pivot_175 G0 n k126 hk126 x1 x2 x3 x4 x5 hx1 hx2 hx3 hx4 hx5 _ hF
set_option maxHeartbeats 4000000 in
set_option maxRecDepth 100000 in
theorem wl_m_pivot_126 {w : Wd} {X : Cx} {r : Int} {M9 : Mm} (G0 : Gx LR w X "WhoRulesModel" b_m_pivot 9 11 249 (some .int)) (n : Nat) : ∀ (f : Nat) (x1 x2 x3 x4 x5 : Int) (hx1 : inR x1) (hx2 : inR x2) (hx3 : inR x3) (hx4 : inR x4) (hx5 : inR x5) (M : Mm), lp_m_pivot_126 n f x1 x2 x3 x4 x5 M = some (r, M9) → VJ LR w X 9 1 r M9 M [(0, .ref (wa w 0)), (1, .int (i32 x1)), (2, .int (i32 x2)), (3, .int (i32 x3)), (4, .int (i32 x4)), (5, .int (i32 x5))] [] 126 := by
  intro f
  induction f with
  | zero => intro x1 x2 x3 x4 x5 hx1 hx2 hx3 hx4 hx5 M hF; cases hF
  | succ f ih => intro x1 x2 x3 x4 x5 hx1 hx2 hx3 hx4 hx5 M hF; exact wk_m_pivot_126 G0 n (lp_m_pivot_126 n f) ih x1 x2 x3 x4 x5 hx1 hx2 hx3 hx4 hx5 M hF
set_option maxHeartbeats 4000000 in
set_option maxRecDepth 100000 in
theorem wk_m_pivot_97 {w : Wd} {X : Cx} {r : Int} {M9 : Mm} (G0 : Gx LR w X "WhoRulesModel" b_m_pivot 9 11 249 (some .int)) (n : Nat) (k49 : Int → Int → Int → Mm → Rr) (hk49 : ∀ (x1 x2 x3 : Int) (hx1 : inR x1) (hx2 : inR x2) (hx3 : inR x3) (M : Mm), k49 x1 x2 x3 M = some (r, M9) → VJ LR w X 9 1 r M9 M [(0, .ref (wa w 0)), (1, .int (i32 x1)), (2, .int (i32 x2)), (3, .int (i32 x3))] [] 49) (x1 x2 x3 : Int) (hx1 : inR x1) (hx2 : inR x2) (hx3 : inR x3) (M : Mm) (hF : f_m_pivot_97 n k49 x1 x2 x3 M = some (r, M9)) : VJ LR w X 9 1 r M9 M [(0, .ref (wa w 0)), (1, .int (i32 x1)), (2, .int (i32 x2)), (3, .int (i32 x3))] [] 97 := by
  have G := G0.1
  unfold f_m_pivot_97 at hF
  refine vj_iinc G (p9 := 3) (n := 1) (lv2 := [(3, .int (i32 (w32 (x3 + 1)))), (0, .ref (wa w 0)), (1, .int (i32 x1)), (2, .int (i32 x2))]) d_m_pivot_97 rfl (by decide) rfl ?_
  refine vj_goto G (tgt := 49) d_m_pivot_100 (by decide) ?_
  refine vj_sub [1, 2, 3, 0] rfl ?_
  exact hk49 x1 x2 (w32 (x3 + 1)) hx1 hx2 (ir_w _) _ hF
set_option maxHeartbeats 4000000 in
set_option maxRecDepth 100000 in
theorem wk_m_pivot_81 {w : Wd} {X : Cx} {r : Int} {M9 : Mm} (G0 : Gx LR w X "WhoRulesModel" b_m_pivot 9 11 249 (some .int)) (n : Nat) (k49 : Int → Int → Int → Mm → Rr) (hk49 : ∀ (x1 x2 x3 : Int) (hx1 : inR x1) (hx2 : inR x2) (hx3 : inR x3) (M : Mm), k49 x1 x2 x3 M = some (r, M9) → VJ LR w X 9 1 r M9 M [(0, .ref (wa w 0)), (1, .int (i32 x1)), (2, .int (i32 x2)), (3, .int (i32 x3))] [] 49) (x1 x2 x3 : Int) (hx1 : inR x1) (hx2 : inR x2) (hx3 : inR x3) (M : Mm) (hF : f_m_pivot_81 n k49 x1 x2 x3 M = some (r, M9)) : VJ LR w X 9 1 r M9 M [(0, .ref (wa w 0)), (1, .int (i32 x1)), (2, .int (i32 x2)), (3, .int (i32 x3))] [] 81 := by
  have G := G0.1
  unfold f_m_pivot_81 at hF
  refine vj_aload_n G (p9 := 0) d_m_pivot_81 rfl rfl ?_
  refine gfR_m_182 G d_m_pivot_82 ?_
  refine vj_aload_n G (p9 := 0) d_m_pivot_85 rfl rfl ?_
  refine vj_iload_n G (p9 := 3) d_m_pivot_86 rfl rfl ?_
  obtain ⟨r1, M1, e1, hF⟩ := bnd_some hF
  refine vj_callV1 G (ct_m_headOf (gx_ij G) n x3 hx3 e1) lkR_0 clR_0 rfl q_1786 cq_m_headOf rfl (by decide) (by decide) (Nat.le_of_ble_eq_true rfl) d_m_pivot_87 rfl (fun hr1 => ?_)
  refine vj_dup2_11 G d_m_pivot_90 rfl rfl ?_
  obtain ⟨c2, hF⟩ := ck_some hF
  refine vj_iald G (x := r1) lkR_36 (by decide) c2 d_m_pivot_91 ?_
  refine vj_mr (fun hM3 => ?_)
  refine vj_iconst G (v := 1) d_m_pivot_92 rfl ?_
  refine vj_iload_n G (p9 := 3) d_m_pivot_93 rfl rfl ?_
  refine vj_ishl G d_m_pivot_94 ?_
  refine vj_ior G d_m_pivot_95 ?_
  obtain ⟨c4, hF⟩ := ck_some hF
  refine vj_iast G (x := r1) lkR_36 (by decide) (by decide) (by decide) c4 (ir_or _ _) d_m_pivot_96 ?_
  exact wk_m_pivot_97 G0 n k49 hk49 x1 x2 x3 hx1 hx2 hx3 _ hF
set_option maxHeartbeats 4000000 in
set_option maxRecDepth 100000 in
theorem wk_m_pivot_49 {w : Wd} {X : Cx} {r : Int} {M9 : Mm} (G0 : Gx LR w X "WhoRulesModel" b_m_pivot 9 11 249 (some .int)) (n : Nat) (k49 : Int → Int → Int → Mm → Rr) (hk49 : ∀ (x1 x2 x3 : Int) (hx1 : inR x1) (hx2 : inR x2) (hx3 : inR x3) (M : Mm), k49 x1 x2 x3 M = some (r, M9) → VJ LR w X 9 1 r M9 M [(0, .ref (wa w 0)), (1, .int (i32 x1)), (2, .int (i32 x2)), (3, .int (i32 x3))] [] 49) (x1 x2 x3 : Int) (hx1 : inR x1) (hx2 : inR x2) (hx3 : inR x3) (M : Mm) (hF : f_m_pivot_49 n k49 x1 x2 x3 M = some (r, M9)) : VJ LR w X 9 1 r M9 M [(0, .ref (wa w 0)), (1, .int (i32 x1)), (2, .int (i32 x2)), (3, .int (i32 x3))] [] 49 := by
  have G := G0.1
  unfold f_m_pivot_49 at hF
  refine vj_iload_n G (p9 := 3) d_m_pivot_49 rfl rfl ?_
  refine vj_aload_n G (p9 := 0) d_m_pivot_50 rfl rfl ?_
  refine gfR_m_13 G d_m_pivot_51 ?_
  refine vj_mr (fun hM1 => ?_)
  refine vj_icmp_ge G (tgt := 103) d_m_pivot_54 (by decide) hx3 (mr_o hM1 lkR_0 flR_0_1) (fun c2 => ?_) (fun c2 => ?_)
  · rw [if_pos c2] at hF
    refine vj_aload_n G (p9 := 0) d_m_pivot_103 rfl rfl ?_
    refine gfR_m_182 G d_m_pivot_104 ?_
    refine vj_aload_n G (p9 := 0) d_m_pivot_107 rfl rfl ?_
    refine vj_iload_n G (p9 := 2) d_m_pivot_108 rfl rfl ?_
    obtain ⟨r3, M3, e3, hF⟩ := bnd_some hF
    refine vj_callV1 G (ct_m_headOf (gx_ij G) n x2 hx2 e3) lkR_0 clR_0 rfl q_1786 cq_m_headOf rfl (by decide) (by decide) (Nat.le_of_ble_eq_true rfl) d_m_pivot_109 rfl (fun hr3 => ?_)
    obtain ⟨c4, hF⟩ := ck_some hF
    refine vj_iald G (x := r3) lkR_36 (by decide) c4 d_m_pivot_112 ?_
    refine vj_mr (fun hM5 => ?_)
    refine vj_istore_n G (lv2 := [(3, .int (i32 (M3 36 r3.toNat))), (0, .ref (wa w 0)), (1, .int (i32 x1)), (2, .int (i32 x2))]) d_m_pivot_113 rfl (by decide) rfl ?_
    refine vj_iload_n G (p9 := 0) d_m_pivot_114 rfl rfl ?_
    refine vj_if_ne G (tgt := 120) d_m_pivot_115 (by decide) (mr_a hM5 lkR_36) (fun c6 => ?_) (fun c6 => ?_)
    · rw [if_pos c6] at hF
      refine vj_iconst G (v := 0) d_m_pivot_120 rfl ?_
      refine vj_istore G (lv2 := [(4, .int (i32 0)), (3, .int (i32 (M3 36 r3.toNat))), (0, .ref (wa w 0)), (1, .int (i32 x1)), (2, .int (i32 x2))]) d_m_pivot_121 (by decide) rfl ?_
      refine vj_iconst G (v := 0) d_m_pivot_123 rfl ?_
      refine vj_istore G (lv2 := [(5, .int (i32 0)), (4, .int (i32 0)), (3, .int (i32 (M3 36 r3.toNat))), (0, .ref (wa w 0)), (1, .int (i32 x1)), (2, .int (i32 x2))]) d_m_pivot_124 (by decide) rfl ?_
      refine vj_sub [3, 4, 5, 2, 1, 0] rfl ?_
      exact wl_m_pivot_126 G0 n  n x1 x2 (M3 36 r3.toNat) 0 0 hx1 hx2 (mr_a hM5 lkR_36) ic_0 ic_0 _ hF
    · rw [if_neg c6] at hF
      refine vj_iconst G (v := 0) d_m_pivot_118 rfl ?_
      cases hF
      exact vj_iret G0 ic_0 d_m_pivot_119
  · rw [if_neg c2] at hF
    refine vj_aload_n G (p9 := 0) d_m_pivot_57 rfl rfl ?_
    refine gfR_m_136 G d_m_pivot_58 ?_
    refine vj_bipush G (v := 16) d_m_pivot_61 rfl ?_
    refine vj_iload_n G (p9 := 1) d_m_pivot_63 rfl rfl ?_
    refine vj_imul G d_m_pivot_64 ?_
    refine vj_iload_n G (p9 := 3) d_m_pivot_65 rfl rfl ?_
    refine vj_iadd G d_m_pivot_66 ?_
    obtain ⟨c7, hF⟩ := ck_some hF
    refine vj_iald G (x := w32 ((w32 (16 * x1)) + x3)) lkR_24 (by decide) c7 d_m_pivot_67 ?_
    refine vj_mr (fun hM8 => ?_)
    refine vj_if_gt G (tgt := 81) d_m_pivot_68 (by decide) (mr_a hM8 lkR_24) (fun c9 => ?_) (fun c9 => ?_)
    · rw [if_pos c9] at hF
      exact wk_m_pivot_81 G0 n k49 hk49 x1 x2 x3 hx1 hx2 hx3 _ hF
    · rw [if_neg c9] at hF
      refine vj_aload_n G (p9 := 0) d_m_pivot_71 rfl rfl ?_
      refine gfR_m_148 G d_m_pivot_72 ?_
      refine vj_iload_n G (p9 := 1) d_m_pivot_75 rfl rfl ?_
      obtain ⟨c10, hF⟩ := ck_some hF
      refine vj_iald G (x := x1) lkR_28 (by decide) c10 d_m_pivot_76 ?_
      refine vj_mr (fun hM11 => ?_)
      refine vj_iload_n G (p9 := 3) d_m_pivot_77 rfl rfl ?_
      refine vj_icmp_ne G (tgt := 97) d_m_pivot_78 (by decide) (mr_a hM11 lkR_28) hx3 (fun c12 => ?_) (fun c12 => ?_)
      · rw [if_pos c12] at hF
        exact wk_m_pivot_97 G0 n k49 hk49 x1 x2 x3 hx1 hx2 hx3 _ hF
      · rw [if_neg c12] at hF
        exact wk_m_pivot_81 G0 n k49 hk49 x1 x2 x3 hx1 hx2 hx3 _ hF
set_option maxHeartbeats 4000000 in
set_option maxRecDepth 100000 in
theorem wl_m_pivot_49 {w : Wd} {X : Cx} {r : Int} {M9 : Mm} (G0 : Gx LR w X "WhoRulesModel" b_m_pivot 9 11 249 (some .int)) (n : Nat) : ∀ (f : Nat) (x1 x2 x3 : Int) (hx1 : inR x1) (hx2 : inR x2) (hx3 : inR x3) (M : Mm), lp_m_pivot_49 n f x1 x2 x3 M = some (r, M9) → VJ LR w X 9 1 r M9 M [(0, .ref (wa w 0)), (1, .int (i32 x1)), (2, .int (i32 x2)), (3, .int (i32 x3))] [] 49 := by
  intro f
  induction f with
  | zero => intro x1 x2 x3 hx1 hx2 hx3 M hF; cases hF
  | succ f ih => intro x1 x2 x3 hx1 hx2 hx3 M hF; exact wk_m_pivot_49 G0 n (lp_m_pivot_49 n f) ih x1 x2 x3 hx1 hx2 hx3 M hF
set_option maxHeartbeats 4000000 in
set_option maxRecDepth 100000 in
theorem wk_m_pivot_28 {w : Wd} {X : Cx} {r : Int} {M9 : Mm} (G0 : Gx LR w X "WhoRulesModel" b_m_pivot 9 11 249 (some .int)) (n : Nat) (k28 : Int → Int → Int → Mm → Rr) (hk28 : ∀ (x1 x2 x3 : Int) (hx1 : inR x1) (hx2 : inR x2) (hx3 : inR x3) (M : Mm), k28 x1 x2 x3 M = some (r, M9) → VJ LR w X 9 1 r M9 M [(0, .ref (wa w 0)), (1, .int (i32 x1)), (2, .int (i32 x2)), (3, .int (i32 x3))] [] 28) (x1 x2 x3 : Int) (hx1 : inR x1) (hx2 : inR x2) (hx3 : inR x3) (M : Mm) (hF : f_m_pivot_28 n k28 x1 x2 x3 M = some (r, M9)) : VJ LR w X 9 1 r M9 M [(0, .ref (wa w 0)), (1, .int (i32 x1)), (2, .int (i32 x2)), (3, .int (i32 x3))] [] 28 := by
  have G := G0.1
  unfold f_m_pivot_28 at hF
  refine vj_iload_n G (p9 := 3) d_m_pivot_28 rfl rfl ?_
  refine vj_bipush G (v := 16) d_m_pivot_29 rfl ?_
  refine vj_icmp_ge G (tgt := 47) d_m_pivot_31 (by decide) hx3 ic_16 (fun c1 => ?_) (fun c1 => ?_)
  · rw [if_pos c1] at hF
    refine vj_iconst G (v := 0) d_m_pivot_47 rfl ?_
    refine vj_istore_n G (lv2 := [(3, .int (i32 0)), (0, .ref (wa w 0)), (1, .int (i32 x1)), (2, .int (i32 x2))]) d_m_pivot_48 rfl (by decide) rfl ?_
    refine vj_sub [1, 2, 3, 0] rfl ?_
    exact wl_m_pivot_49 G0 n  n x1 x2 0 hx1 hx2 ic_0 _ hF
  · rw [if_neg c1] at hF
    refine vj_aload_n G (p9 := 0) d_m_pivot_34 rfl rfl ?_
    refine gfR_m_182 G d_m_pivot_35 ?_
    refine vj_iload_n G (p9 := 3) d_m_pivot_38 rfl rfl ?_
    refine vj_iconst G (v := 0) d_m_pivot_39 rfl ?_
    obtain ⟨c2, hF⟩ := ck_some hF
    refine vj_iast G (x := x3) lkR_36 (by decide) (by decide) (by decide) c2 ic_0 d_m_pivot_40 ?_
    refine vj_iinc G (p9 := 3) (n := 1) (lv2 := [(3, .int (i32 (w32 (x3 + 1)))), (0, .ref (wa w 0)), (1, .int (i32 x1)), (2, .int (i32 x2))]) d_m_pivot_41 rfl (by decide) rfl ?_
    refine vj_goto G (tgt := 28) d_m_pivot_44 (by decide) ?_
    refine vj_sub [1, 2, 3, 0] rfl ?_
    exact hk28 x1 x2 (w32 (x3 + 1)) hx1 hx2 (ir_w _) _ hF
set_option maxHeartbeats 4000000 in
set_option maxRecDepth 100000 in
theorem wl_m_pivot_28 {w : Wd} {X : Cx} {r : Int} {M9 : Mm} (G0 : Gx LR w X "WhoRulesModel" b_m_pivot 9 11 249 (some .int)) (n : Nat) : ∀ (f : Nat) (x1 x2 x3 : Int) (hx1 : inR x1) (hx2 : inR x2) (hx3 : inR x3) (M : Mm), lp_m_pivot_28 n f x1 x2 x3 M = some (r, M9) → VJ LR w X 9 1 r M9 M [(0, .ref (wa w 0)), (1, .int (i32 x1)), (2, .int (i32 x2)), (3, .int (i32 x3))] [] 28 := by
  intro f
  induction f with
  | zero => intro x1 x2 x3 hx1 hx2 hx3 M hF; cases hF
  | succ f ih => intro x1 x2 x3 hx1 hx2 hx3 M hF; exact wk_m_pivot_28 G0 n (lp_m_pivot_28 n f) ih x1 x2 x3 hx1 hx2 hx3 M hF
set_option maxHeartbeats 4000000 in
set_option maxRecDepth 100000 in
theorem ct_m_pivot {w : Wd} (hij : ij LR w) (n : Nat) (x1 x2 : Int) (hx1 : inR x1) (hx2 : inR x2) {M : Mm} {r : Int} {M9 : Mm} (hF : f_m_pivot n x1 x2 M = some (r, M9)) : Ct LR w y_m_pivot b_m_pivot 9 (some .int) 11 249 1 [.ref (wa w 0), .int (i32 x1), .int (i32 x2)] M r M9 := by
  refine Ct.of hij KstR (by decide +kernel) (Nat.le_of_ble_eq_true rfl) (fun X G0 => ?_)
  have G := G0.1
  show VJ LR w X 9 1 r M9 M [(0, .ref (wa w 0)), (1, .int (i32 x1)), (2, .int (i32 x2))] [] 0
  unfold f_m_pivot at hF
  refine vj_aload_n G (p9 := 0) d_m_pivot_0 rfl rfl ?_
  refine vj_iload_n G (p9 := 1) d_m_pivot_1 rfl rfl ?_
  obtain ⟨r1, M1, e1, hF⟩ := bnd_some hF
  refine vj_callV3 G (ct_m_isFirm (gx_ij G) n x1 hx1 e1) lkR_0 clR_0 rfl q_1555 cq_m_isFirm rfl (by decide) (by decide) (Nat.le_of_ble_eq_true rfl) d_m_pivot_2 rfl (fun hr1 => ?_)
  refine vj_if_eq G (tgt := 16) d_m_pivot_5 (by decide) (ir_b hr1) (fun c2 => ?_) (fun c2 => ?_)
  · rw [if_pos c2] at hF
    refine vj_iconst G (v := (-1)) d_m_pivot_16 rfl ?_
    cases hF
    exact vj_iret G0 ic_m1 d_m_pivot_17
  · rw [if_neg c2] at hF
    refine vj_aload_n G (p9 := 0) d_m_pivot_8 rfl rfl ?_
    refine vj_iload_n G (p9 := 2) d_m_pivot_9 rfl rfl ?_
    obtain ⟨r3, M3, e3, hF⟩ := bnd_some hF
    refine vj_callV3 G (ct_m_isHolder (gx_ij G) n x2 hx2 e3) lkR_0 clR_0 rfl q_1559 cq_m_isHolder rfl (by decide) (by decide) (Nat.le_of_ble_eq_true rfl) d_m_pivot_10 rfl (fun hr3 => ?_)
    refine vj_if_ne G (tgt := 18) d_m_pivot_13 (by decide) (ir_b hr3) (fun c4 => ?_) (fun c4 => ?_)
    · rw [if_pos c4] at hF
      refine vj_aload_n G (p9 := 0) d_m_pivot_18 rfl rfl ?_
      refine vj_aload_n G (p9 := 0) d_m_pivot_19 rfl rfl ?_
      refine gfR_m_7 G d_m_pivot_20 ?_
      refine vj_mr (fun hM5 => ?_)
      obtain ⟨r6, M6, e6, hF⟩ := bnd_some hF
      refine vj_callV0 G (ct_m_least (gx_ij G) n (M3 0 0) (mr_o hM5 lkR_0 flR_0_0) e6) lkR_0 clR_0 rfl q_1696 cq_m_least rfl (by decide) (by decide) (Nat.le_of_ble_eq_true rfl) d_m_pivot_23 rfl (fun hr6 => ?_)
      refine vj_iconst G (v := 0) d_m_pivot_26 rfl ?_
      refine vj_istore_n G (lv2 := [(3, .int (i32 0)), (0, .ref (wa w 0)), (1, .int (i32 x1)), (2, .int (i32 x2))]) d_m_pivot_27 rfl (by decide) rfl ?_
      refine vj_sub [1, 2, 3, 0] rfl ?_
      exact wl_m_pivot_28 G0 n  n x1 x2 0 hx1 hx2 ic_0 _ hF
    · rw [if_neg c4] at hF
      refine vj_iconst G (v := (-1)) d_m_pivot_16 rfl ?_
      cases hF
      exact vj_iret G0 ic_m1 d_m_pivot_17
set_option maxHeartbeats 4000000 in
set_option maxRecDepth 100000 in
theorem ct_m_good {w : Wd} (hij : ij LR w) (n : Nat) (x1 : Int) (hx1 : inR x1) {M : Mm} {r : Int} {M9 : Mm} (hF : f_m_good n x1 M = some (r, M9)) : Ct LR w y_m_good b_m_good 2 none 0 0 0 [.ref (wa w 0), .int (i32 x1)] M r M9 := by
  refine Ct.of hij KstR (by decide +kernel) (Nat.le_of_ble_eq_true rfl) (fun X G0 => ?_)
  have G := G0.1
  show VJ LR w X 2 0 r M9 M [(0, .ref (wa w 0)), (1, .int (i32 x1))] [] 0
  unfold f_m_good at hF
  refine vj_aload_n G (p9 := 0) d_m_good_0 rfl rfl ?_
  refine gfR_m_194 G d_m_good_1 ?_
  refine vj_mr (fun hM1 => ?_)
  refine vj_bipush G (v := 8) d_m_good_4 rfl ?_
  refine vj_icmp_ne G (tgt := 10) d_m_good_6 (by decide) (mr_o hM1 lkR_0 flR_0_60) ic_8 (fun c2 => ?_) (fun c2 => ?_)
  · rw [if_pos c2] at hF
    refine vj_aload_n G (p9 := 0) d_m_good_10 rfl rfl ?_
    refine gfR_m_188 G d_m_good_11 ?_
    refine vj_aload_n G (p9 := 0) d_m_good_14 rfl rfl ?_
    refine gfR_m_194 G d_m_good_15 ?_
    refine vj_mr (fun hM3 => ?_)
    refine vj_iload_n G (p9 := 1) d_m_good_18 rfl rfl ?_
    obtain ⟨c4, hF⟩ := ck_some hF
    refine vj_iast G (x := (M 0 60)) lkR_38 (by decide) (by decide) (by decide) c4 hx1 d_m_good_19 ?_
    refine vj_aload_n G (p9 := 0) d_m_good_20 rfl rfl ?_
    refine vj_dup G d_m_good_21 rfl ?_
    refine gfR_m_194 G d_m_good_22 ?_
    refine vj_mr (fun hM5 => ?_)
    refine vj_iconst G (v := 1) d_m_good_25 rfl ?_
    refine vj_iadd G d_m_good_26 ?_
    refine pfR_m_194 G (ir_w _) d_m_good_27 ?_
    cases hF
    exact vj_vret G0 d_m_good_30
  · rw [if_neg c2] at hF
    cases hF
    exact vj_vret G0 d_m_good_9
set_option maxHeartbeats 4000000 in
set_option maxRecDepth 100000 in
theorem wk_m_bitsOf_38 {w : Wd} {X : Cx} {r : Int} {M9 : Mm} (G0 : Gx LR w X "WhoRulesModel" b_m_bitsOf 5 0 0 (some .long)) (n : Nat) (k5 : Int → Int → Int → Mm → Rr) (hk5 : ∀ (x1 x2 x4 : Int) (hx1 : inR x1) (hx2 : in64 x2) (hx4 : inR x4) (M : Mm), k5 x1 x2 x4 M = some (r, M9) → VJ LR w X 5 2 r M9 M [(0, .ref (wa w 0)), (1, .int (i32 x1)), (2, .long (i64 x2)), (4, .int (i32 x4))] [] 5) (x1 x4 s0 s1 : Int) (hx1 : inR x1) (hx4 : inR x4) (hs0 : in64 s0) (hs1 : in64 s1) (M : Mm) (hF : f_m_bitsOf_38 n k5 x1 x4 s0 s1 M = some (r, M9)) : VJ LR w X 5 2 r M9 M [(0, .ref (wa w 0)), (1, .int (i32 x1)), (4, .int (i32 x4))] [.long (i64 s1), .long (i64 s0)] 38 := by
  have G := G0.1
  unfold f_m_bitsOf_38 at hF
  refine vj_lor G d_m_bitsOf_38 ?_
  refine vj_lstore_n G (lv2 := [(2, .long (i64 (lor s0 s1))), (0, .ref (wa w 0)), (1, .int (i32 x1)), (4, .int (i32 x4))]) d_m_bitsOf_39 rfl (by decide) rfl ?_
  refine vj_iinc G (p9 := 3) (n := 1) (lv2 := [(4, .int (i32 (w32 (x4 + 1)))), (2, .long (i64 (lor s0 s1))), (0, .ref (wa w 0)), (1, .int (i32 x1))]) d_m_bitsOf_40 rfl (by decide) rfl ?_
  refine vj_goto G (tgt := 5) d_m_bitsOf_43 (by decide) ?_
  refine vj_sub [2, 3, 1, 0] rfl ?_
  exact hk5 x1 (lor s0 s1) (w32 (x4 + 1)) hx1 (lr_or _ _) (ir_w _) _ hF
set_option maxHeartbeats 4000000 in
set_option maxRecDepth 100000 in
theorem wk_m_bitsOf_5 {w : Wd} {X : Cx} {r : Int} {M9 : Mm} (G0 : Gx LR w X "WhoRulesModel" b_m_bitsOf 5 0 0 (some .long)) (n : Nat) (k5 : Int → Int → Int → Mm → Rr) (hk5 : ∀ (x1 x2 x4 : Int) (hx1 : inR x1) (hx2 : in64 x2) (hx4 : inR x4) (M : Mm), k5 x1 x2 x4 M = some (r, M9) → VJ LR w X 5 2 r M9 M [(0, .ref (wa w 0)), (1, .int (i32 x1)), (2, .long (i64 x2)), (4, .int (i32 x4))] [] 5) (x1 x2 x4 : Int) (hx1 : inR x1) (hx2 : in64 x2) (hx4 : inR x4) (M : Mm) (hF : f_m_bitsOf_5 n k5 x1 x2 x4 M = some (r, M9)) : VJ LR w X 5 2 r M9 M [(0, .ref (wa w 0)), (1, .int (i32 x1)), (2, .long (i64 x2)), (4, .int (i32 x4))] [] 5 := by
  have G := G0.1
  unfold f_m_bitsOf_5 at hF
  refine vj_iload G (p9 := 3) d_m_bitsOf_5 rfl ?_
  refine vj_aload_n G (p9 := 0) d_m_bitsOf_7 rfl rfl ?_
  refine gfR_m_194 G d_m_bitsOf_8 ?_
  refine vj_mr (fun hM1 => ?_)
  refine vj_icmp_ge G (tgt := 46) d_m_bitsOf_11 (by decide) hx4 (mr_o hM1 lkR_0 flR_0_60) (fun c2 => ?_) (fun c2 => ?_)
  · rw [if_pos c2] at hF
    refine vj_lload_n G (p9 := 2) d_m_bitsOf_46 rfl rfl ?_
    cases hF
    exact vj_lret G0 hx2 d_m_bitsOf_47
  · rw [if_neg c2] at hF
    refine vj_lload_n G (p9 := 2) d_m_bitsOf_14 rfl rfl ?_
    refine vj_iload_n G (p9 := 1) d_m_bitsOf_15 rfl rfl ?_
    refine vj_iload G (p9 := 3) d_m_bitsOf_16 rfl ?_
    refine vj_ishr G d_m_bitsOf_18 ?_
    refine vj_iconst G (v := 1) d_m_bitsOf_19 rfl ?_
    refine vj_iand G d_m_bitsOf_20 ?_
    refine vj_iconst G (v := 1) d_m_bitsOf_21 rfl ?_
    refine vj_icmp_ne G (tgt := 37) d_m_bitsOf_22 (by decide) (ir_an _ _) ic_1 (fun c3 => ?_) (fun c3 => ?_)
    · rw [if_pos c3] at hF
      refine vj_lconst G (v := 0) d_m_bitsOf_37 rfl ?_
      refine vj_sub [0, 1, 3] rfl ?_
      exact wk_m_bitsOf_38 G0 n k5 hk5 x1 x4 x2 0 hx1 hx4 hx2 (lr_i ic_0) _ hF
    · rw [if_neg c3] at hF
      refine vj_lconst G (v := 1) d_m_bitsOf_25 rfl ?_
      refine vj_aload_n G (p9 := 0) d_m_bitsOf_26 rfl rfl ?_
      refine gfR_m_188 G d_m_bitsOf_27 ?_
      refine vj_iload G (p9 := 3) d_m_bitsOf_30 rfl ?_
      obtain ⟨c4, hF⟩ := ck_some hF
      refine vj_iald G (x := x4) lkR_38 (by decide) c4 d_m_bitsOf_32 ?_
      refine vj_mr (fun hM5 => ?_)
      refine vj_lshl G d_m_bitsOf_33 ?_
      refine vj_goto G (tgt := 38) d_m_bitsOf_34 (by decide) ?_
      refine vj_sub [0, 1, 3] rfl ?_
      exact wk_m_bitsOf_38 G0 n k5 hk5 x1 x4 x2 (lsh 1 (M 38 x4.toNat)) hx1 hx4 hx2 (lr_sh _ _) _ hF
set_option maxHeartbeats 4000000 in
set_option maxRecDepth 100000 in
theorem wl_m_bitsOf_5 {w : Wd} {X : Cx} {r : Int} {M9 : Mm} (G0 : Gx LR w X "WhoRulesModel" b_m_bitsOf 5 0 0 (some .long)) (n : Nat) : ∀ (f : Nat) (x1 x2 x4 : Int) (hx1 : inR x1) (hx2 : in64 x2) (hx4 : inR x4) (M : Mm), lp_m_bitsOf_5 n f x1 x2 x4 M = some (r, M9) → VJ LR w X 5 2 r M9 M [(0, .ref (wa w 0)), (1, .int (i32 x1)), (2, .long (i64 x2)), (4, .int (i32 x4))] [] 5 := by
  intro f
  induction f with
  | zero => intro x1 x2 x4 hx1 hx2 hx4 M hF; cases hF
  | succ f ih => intro x1 x2 x4 hx1 hx2 hx4 M hF; exact wk_m_bitsOf_5 G0 n (lp_m_bitsOf_5 n f) ih x1 x2 x4 hx1 hx2 hx4 M hF
set_option maxHeartbeats 4000000 in
set_option maxRecDepth 100000 in
theorem ct_m_bitsOf {w : Wd} (hij : ij LR w) (n : Nat) (x1 : Int) (hx1 : inR x1) {M : Mm} {r : Int} {M9 : Mm} (hF : f_m_bitsOf n x1 M = some (r, M9)) : Ct LR w y_m_bitsOf b_m_bitsOf 5 (some .long) 0 0 2 [.ref (wa w 0), .int (i32 x1)] M r M9 := by
  refine Ct.of hij KstR (by decide +kernel) (Nat.le_of_ble_eq_true rfl) (fun X G0 => ?_)
  have G := G0.1
  show VJ LR w X 5 2 r M9 M [(0, .ref (wa w 0)), (1, .int (i32 x1))] [] 0
  unfold f_m_bitsOf at hF
  refine vj_lconst G (v := 0) d_m_bitsOf_0 rfl ?_
  refine vj_lstore_n G (lv2 := [(2, .long (i64 0)), (0, .ref (wa w 0)), (1, .int (i32 x1))]) d_m_bitsOf_1 rfl (by decide) rfl ?_
  refine vj_iconst G (v := 0) d_m_bitsOf_2 rfl ?_
  refine vj_istore G (lv2 := [(4, .int (i32 0)), (2, .long (i64 0)), (0, .ref (wa w 0)), (1, .int (i32 x1))]) d_m_bitsOf_3 (by decide) rfl ?_
  refine vj_sub [2, 3, 1, 0] rfl ?_
  exact wl_m_bitsOf_5 G0 n  n x1 0 0 hx1 (lr_i ic_0) ic_0 _ hF
set_option maxHeartbeats 4000000 in
set_option maxRecDepth 100000 in
theorem wk_m_findBought_282 {w : Wd} {X : Cx} {r : Int} {M9 : Mm} (G0 : Gx LR w X "WhoRulesModel" b_m_findBought 8 9 207 (some .boolean)) (n : Nat) (k61 : Int → Int → Int → Int → Int → Mm → Rr) (hk61 : ∀ (x1 x2 x3 x4 x5 : Int) (hx1 : inR x1) (hx2 : inR x2) (hx3 : inB x3) (hx4 : inR x4) (hx5 : inR x5) (M : Mm), k61 x1 x2 x3 x4 x5 M = some (r, M9) → VJ LR w X 8 3 r M9 M [(0, .ref (wa w 0)), (1, .int (i32 x1)), (2, .int (i32 x2)), (3, .int (i32 x3)), (4, .int (i32 x4)), (5, .int (i32 x5))] [] 61) (x1 x2 x3 x4 x5 : Int) (hx1 : inR x1) (hx2 : inR x2) (hx3 : inB x3) (hx4 : inR x4) (hx5 : inR x5) (M : Mm) (hF : f_m_findBought_282 n k61 x1 x2 x3 x4 x5 M = some (r, M9)) : VJ LR w X 8 3 r M9 M [(0, .ref (wa w 0)), (1, .int (i32 x1)), (2, .int (i32 x2)), (3, .int (i32 x3)), (4, .int (i32 x4)), (5, .int (i32 x5))] [] 282 := by
  have G := G0.1
  unfold f_m_findBought_282 at hF
  refine vj_iinc G (p9 := 5) (n := 1) (lv2 := [(5, .int (i32 (w32 (x5 + 1)))), (0, .ref (wa w 0)), (1, .int (i32 x1)), (2, .int (i32 x2)), (3, .int (i32 x3)), (4, .int (i32 x4))]) d_m_findBought_282 rfl (by decide) rfl ?_
  refine vj_goto G (tgt := 61) d_m_findBought_285 (by decide) ?_
  refine vj_sub [1, 2, 3, 4, 5, 0] rfl ?_
  exact hk61 x1 x2 x3 x4 (w32 (x5 + 1)) hx1 hx2 hx3 hx4 (ir_w _) _ hF
set_option maxHeartbeats 4000000 in
set_option maxRecDepth 100000 in
theorem wk_m_findBought_224 {w : Wd} {X : Cx} {r : Int} {M9 : Mm} (G0 : Gx LR w X "WhoRulesModel" b_m_findBought 8 9 207 (some .boolean)) (n : Nat) (k61 : Int → Int → Int → Int → Int → Mm → Rr) (hk61 : ∀ (x1 x2 x3 x4 x5 : Int) (hx1 : inR x1) (hx2 : inR x2) (hx3 : inB x3) (hx4 : inR x4) (hx5 : inR x5) (M : Mm), k61 x1 x2 x3 x4 x5 M = some (r, M9) → VJ LR w X 8 3 r M9 M [(0, .ref (wa w 0)), (1, .int (i32 x1)), (2, .int (i32 x2)), (3, .int (i32 x3)), (4, .int (i32 x4)), (5, .int (i32 x5))] [] 61) (k173 : Int → Int → Int → Int → Int → Int → Int → Mm → Rr) (hk173 : ∀ (x1 x2 x3 x4 x5 x6 x7 : Int) (hx1 : inR x1) (hx2 : inR x2) (hx3 : inB x3) (hx4 : inR x4) (hx5 : inR x5) (hx6 : inR x6) (hx7 : inR x7) (M : Mm), k173 x1 x2 x3 x4 x5 x6 x7 M = some (r, M9) → VJ LR w X 8 3 r M9 M [(0, .ref (wa w 0)), (1, .int (i32 x1)), (2, .int (i32 x2)), (3, .int (i32 x3)), (4, .int (i32 x4)), (5, .int (i32 x5)), (6, .int (i32 x6)), (7, .int (i32 x7))] [] 173) (x1 x2 x3 x4 x5 x6 x7 : Int) (hx1 : inR x1) (hx2 : inR x2) (hx3 : inB x3) (hx4 : inR x4) (hx5 : inR x5) (hx6 : inR x6) (hx7 : inR x7) (M : Mm) (hF : f_m_findBought_224 n k61 k173 x1 x2 x3 x4 x5 x6 x7 M = some (r, M9)) : VJ LR w X 8 3 r M9 M [(0, .ref (wa w 0)), (1, .int (i32 x1)), (2, .int (i32 x2)), (3, .int (i32 x3)), (4, .int (i32 x4)), (5, .int (i32 x5)), (6, .int (i32 x6)), (7, .int (i32 x7))] [] 224 := by
  have G := G0.1
  unfold f_m_findBought_224 at hF
  refine vj_iinc G (p9 := 7) (n := 1) (lv2 := [(7, .int (i32 (w32 (x7 + 1)))), (0, .ref (wa w 0)), (1, .int (i32 x1)), (2, .int (i32 x2)), (3, .int (i32 x3)), (4, .int (i32 x4)), (5, .int (i32 x5)), (6, .int (i32 x6))]) d_m_findBought_224 rfl (by decide) rfl ?_
  refine vj_goto G (tgt := 173) d_m_findBought_227 (by decide) ?_
  refine vj_sub [1, 2, 3, 4, 5, 6, 7, 0] rfl ?_
  exact hk173 x1 x2 x3 x4 x5 x6 (w32 (x7 + 1)) hx1 hx2 hx3 hx4 hx5 hx6 (ir_w _) _ hF
set_option maxHeartbeats 4000000 in
set_option maxRecDepth 100000 in
theorem wk_m_findBought_173 {w : Wd} {X : Cx} {r : Int} {M9 : Mm} (G0 : Gx LR w X "WhoRulesModel" b_m_findBought 8 9 207 (some .boolean)) (n : Nat) (k61 : Int → Int → Int → Int → Int → Mm → Rr) (hk61 : ∀ (x1 x2 x3 x4 x5 : Int) (hx1 : inR x1) (hx2 : inR x2) (hx3 : inB x3) (hx4 : inR x4) (hx5 : inR x5) (M : Mm), k61 x1 x2 x3 x4 x5 M = some (r, M9) → VJ LR w X 8 3 r M9 M [(0, .ref (wa w 0)), (1, .int (i32 x1)), (2, .int (i32 x2)), (3, .int (i32 x3)), (4, .int (i32 x4)), (5, .int (i32 x5))] [] 61) (k173 : Int → Int → Int → Int → Int → Int → Int → Mm → Rr) (hk173 : ∀ (x1 x2 x3 x4 x5 x6 x7 : Int) (hx1 : inR x1) (hx2 : inR x2) (hx3 : inB x3) (hx4 : inR x4) (hx5 : inR x5) (hx6 : inR x6) (hx7 : inR x7) (M : Mm), k173 x1 x2 x3 x4 x5 x6 x7 M = some (r, M9) → VJ LR w X 8 3 r M9 M [(0, .ref (wa w 0)), (1, .int (i32 x1)), (2, .int (i32 x2)), (3, .int (i32 x3)), (4, .int (i32 x4)), (5, .int (i32 x5)), (6, .int (i32 x6)), (7, .int (i32 x7))] [] 173) (x1 x2 x3 x4 x5 x6 x7 : Int) (hx1 : inR x1) (hx2 : inR x2) (hx3 : inB x3) (hx4 : inR x4) (hx5 : inR x5) (hx6 : inR x6) (hx7 : inR x7) (M : Mm) (hF : f_m_findBought_173 n k61 k173 x1 x2 x3 x4 x5 x6 x7 M = some (r, M9)) : VJ LR w X 8 3 r M9 M [(0, .ref (wa w 0)), (1, .int (i32 x1)), (2, .int (i32 x2)), (3, .int (i32 x3)), (4, .int (i32 x4)), (5, .int (i32 x5)), (6, .int (i32 x6)), (7, .int (i32 x7))] [] 173 := by
  have G := G0.1
  unfold f_m_findBought_173 at hF
  refine vj_iload G (p9 := 7) d_m_findBought_173 rfl ?_
  refine vj_aload_n G (p9 := 0) d_m_findBought_175 rfl rfl ?_
  refine gfR_m_194 G d_m_findBought_176 ?_
  refine vj_mr (fun hM1 => ?_)
  refine vj_icmp_ge G (tgt := 230) d_m_findBought_179 (by decide) hx7 (mr_o hM1 lkR_0 flR_0_60) (fun c2 => ?_) (fun c2 => ?_)
  · rw [if_pos c2] at hF
    refine vj_aload_n G (p9 := 0) d_m_findBought_230 rfl rfl ?_
    refine vj_aload_n G (p9 := 0) d_m_findBought_231 rfl rfl ?_
    refine gfR_m_7 G d_m_findBought_232 ?_
    refine vj_mr (fun hM3 => ?_)
    obtain ⟨r4, M4, e4, hF⟩ := bnd_some hF
    refine vj_callV0 G (ct_m_findVotes (gx_ij G) n (M 0 0) (mr_o hM3 lkR_0 flR_0_0) e4) lkR_0 clR_0 rfl q_1680 cq_m_findVotes rfl (by decide) (by decide) (Nat.le_of_ble_eq_true rfl) d_m_findBought_235 rfl (fun hr4 => ?_)
    refine vj_aload_n G (p9 := 0) d_m_findBought_238 rfl rfl ?_
    obtain ⟨r5, M5, e5, hF⟩ := bnd_some hF
    refine vj_callV0 G (ct_m_findLeast (gx_ij G) n   e5) lkR_0 clR_0 rfl q_1700 cq_m_findLeast rfl (by decide) (by decide) (Nat.le_of_ble_eq_true rfl) d_m_findBought_239 rfl (fun hr5 => ?_)
    refine vj_aload_n G (p9 := 0) d_m_findBought_242 rfl rfl ?_
    refine gfR_m_151 G d_m_findBought_243 ?_
    refine vj_iload_n G (p9 := 2) d_m_findBought_246 rfl rfl ?_
    obtain ⟨c6, hF⟩ := ck_some hF
    refine vj_iald G (x := x2) lkR_29 (by decide) c6 d_m_findBought_247 ?_
    refine vj_mr (fun hM7 => ?_)
    refine vj_iload_n G (p9 := 1) d_m_findBought_248 rfl rfl ?_
    refine vj_icmp_eq G (tgt := 255) d_m_findBought_249 (by decide) (mr_a hM7 lkR_29) hx1 (fun c8 => ?_) (fun c8 => ?_)
    · rw [if_pos c8] at hF
      refine vj_iconst G (v := 1) d_m_findBought_255 rfl ?_
      refine vj_istore_n G (lv2 := [(3, .int (i32 1)), (0, .ref (wa w 0)), (1, .int (i32 x1)), (2, .int (i32 x2)), (4, .int (i32 x4)), (5, .int (i32 x5)), (6, .int (i32 x6)), (7, .int (i32 x7))]) d_m_findBought_256 rfl (by decide) rfl ?_
      refine vj_aload_n G (p9 := 1) d_m_findBought_257 rfl rfl ?_
      refine vj_iload G (p9 := 6) d_m_findBought_258 rfl ?_
      refine pfR_m_201 G hx6 d_m_findBought_260 ?_
      refine vj_aload_n G (p9 := 1) d_m_findBought_263 rfl rfl ?_
      refine vj_iload G (p9 := 5) d_m_findBought_264 rfl ?_
      refine vj_i2l G d_m_findBought_266 hx5 ?_
      obtain ⟨r9, M9, e9, hF⟩ := bnd_some hF
      refine vj_callV1 G (ct_m_ones (gx_ij G) n x5 (lr_i hx5) e9) lkR_0 clR_0 rfl q_1802 cq_m_ones rfl (by decide) (by decide) (Nat.le_of_ble_eq_true rfl) d_m_findBought_267 rfl (fun hr9 => ?_)
      refine vj_istore G (lv2 := [(4, .int (i32 r9)), (3, .int (i32 1)), (0, .ref (wa w 0)), (1, .int (i32 x1)), (2, .int (i32 x2)), (5, .int (i32 x5)), (6, .int (i32 x6)), (7, .int (i32 x7))]) d_m_findBought_270 (by decide) rfl ?_
      refine vj_aload_n G (p9 := 2) d_m_findBought_272 rfl rfl ?_
      refine vj_aload_n G (p9 := 2) d_m_findBought_273 rfl rfl ?_
      refine vj_iload G (p9 := 5) d_m_findBought_274 rfl ?_
      obtain ⟨r10, M10, e10, hF⟩ := bnd_some hF
      refine vj_callV2 G (ct_m_bitsOf (gx_ij G) n x5 hx5 e10) lkR_0 clR_0 rfl q_1806 cq_m_bitsOf rfl (by decide) (by decide) (Nat.le_of_ble_eq_true rfl) d_m_findBought_276 rfl (fun hr10 => ?_)
      refine pfR_m_197 G hr10 d_m_findBought_279 ?_
      refine vj_sub [2, 3, 4, 1, 0, 5] rfl ?_
      exact wk_m_findBought_282 G0 n k61 hk61 x1 x2 1 r9 x5 hx1 hx2 (Or.inr rfl) hr9 hx5 _ hF
    · rw [if_neg c8] at hF
      refine vj_goto G (tgt := 282) d_m_findBought_252 (by decide) ?_
      refine vj_sub [0, 1, 2, 3, 4, 5] rfl ?_
      exact wk_m_findBought_282 G0 n k61 hk61 x1 x2 x3 x4 x5 hx1 hx2 hx3 hx4 hx5 _ hF
  · rw [if_neg c2] at hF
    refine vj_iload G (p9 := 5) d_m_findBought_182 rfl ?_
    refine vj_iload G (p9 := 7) d_m_findBought_184 rfl ?_
    refine vj_ishr G d_m_findBought_186 ?_
    refine vj_iconst G (v := 1) d_m_findBought_187 rfl ?_
    refine vj_iand G d_m_findBought_188 ?_
    refine vj_if_ne G (tgt := 195) d_m_findBought_189 (by decide) (ir_an _ _) (fun c11 => ?_) (fun c11 => ?_)
    · rw [if_pos c11] at hF
      refine vj_aload_n G (p9 := 0) d_m_findBought_195 rfl rfl ?_
      refine gfR_m_130 G d_m_findBought_196 ?_
      refine vj_aload_n G (p9 := 0) d_m_findBought_199 rfl rfl ?_
      refine gfR_m_188 G d_m_findBought_200 ?_
      refine vj_iload G (p9 := 7) d_m_findBought_203 rfl ?_
      obtain ⟨c12, hF⟩ := ck_some hF
      refine vj_iald G (x := x7) lkR_38 (by decide) c12 d_m_findBought_205 ?_
      refine vj_mr (fun hM13 => ?_)
      refine vj_iload_n G (p9 := 1) d_m_findBought_206 rfl rfl ?_
      obtain ⟨c14, hF⟩ := ck_some hF
      refine vj_iast G (x := (M 38 x7.toNat)) lkR_22 (by decide) (by decide) (by decide) c14 hx1 d_m_findBought_207 ?_
      refine vj_aload_n G (p9 := 0) d_m_findBought_208 rfl rfl ?_
      refine gfR_m_133 G d_m_findBought_209 ?_
      refine vj_aload_n G (p9 := 0) d_m_findBought_212 rfl rfl ?_
      refine gfR_m_188 G d_m_findBought_213 ?_
      refine vj_iload G (p9 := 7) d_m_findBought_216 rfl ?_
      obtain ⟨c15, hF⟩ := ck_some hF
      refine vj_iald G (x := x7) lkR_38 (by decide) c15 d_m_findBought_218 ?_
      refine vj_mr (fun hM16 => ?_)
      refine vj_aload_n G (p9 := 0) d_m_findBought_219 rfl rfl ?_
      refine gfR_m_7 G d_m_findBought_220 ?_
      obtain ⟨c17, hF⟩ := ck_some hF
      refine vj_iast G (x := ((mset M 22 (M 38 x7.toNat).toNat x1) 38 x7.toNat)) lkR_23 (by decide) (by decide) (by decide) c17 (mr_o hM16 lkR_0 flR_0_0) d_m_findBought_223 ?_
      exact wk_m_findBought_224 G0 n k61 hk61 k173 hk173 x1 x2 x3 x4 x5 x6 x7 hx1 hx2 hx3 hx4 hx5 hx6 hx7 _ hF
    · rw [if_neg c11] at hF
      refine vj_goto G (tgt := 224) d_m_findBought_192 (by decide) ?_
      exact wk_m_findBought_224 G0 n k61 hk61 k173 hk173 x1 x2 x3 x4 x5 x6 x7 hx1 hx2 hx3 hx4 hx5 hx6 hx7 _ hF
set_option maxHeartbeats 4000000 in
set_option maxRecDepth 100000 in
theorem wl_m_findBought_173 {w : Wd} {X : Cx} {r : Int} {M9 : Mm} (G0 : Gx LR w X "WhoRulesModel" b_m_findBought 8 9 207 (some .boolean)) (n : Nat) (k61 : Int → Int → Int → Int → Int → Mm → Rr) (hk61 : ∀ (x1 x2 x3 x4 x5 : Int) (hx1 : inR x1) (hx2 : inR x2) (hx3 : inB x3) (hx4 : inR x4) (hx5 : inR x5) (M : Mm), k61 x1 x2 x3 x4 x5 M = some (r, M9) → VJ LR w X 8 3 r M9 M [(0, .ref (wa w 0)), (1, .int (i32 x1)), (2, .int (i32 x2)), (3, .int (i32 x3)), (4, .int (i32 x4)), (5, .int (i32 x5))] [] 61) : ∀ (f : Nat) (x1 x2 x3 x4 x5 x6 x7 : Int) (hx1 : inR x1) (hx2 : inR x2) (hx3 : inB x3) (hx4 : inR x4) (hx5 : inR x5) (hx6 : inR x6) (hx7 : inR x7) (M : Mm), lp_m_findBought_173 n k61 f x1 x2 x3 x4 x5 x6 x7 M = some (r, M9) → VJ LR w X 8 3 r M9 M [(0, .ref (wa w 0)), (1, .int (i32 x1)), (2, .int (i32 x2)), (3, .int (i32 x3)), (4, .int (i32 x4)), (5, .int (i32 x5)), (6, .int (i32 x6)), (7, .int (i32 x7))] [] 173 := by
  intro f
  induction f with
  | zero => intro x1 x2 x3 x4 x5 x6 x7 hx1 hx2 hx3 hx4 hx5 hx6 hx7 M hF; cases hF
  | succ f ih => intro x1 x2 x3 x4 x5 x6 x7 hx1 hx2 hx3 hx4 hx5 hx6 hx7 M hF; exact wk_m_findBought_173 G0 n k61 hk61 (lp_m_findBought_173 n k61 f) ih x1 x2 x3 x4 x5 x6 x7 hx1 hx2 hx3 hx4 hx5 hx6 hx7 M hF
set_option maxHeartbeats 4000000 in
set_option maxRecDepth 100000 in
theorem wk_m_findBought_162 {w : Wd} {X : Cx} {r : Int} {M9 : Mm} (G0 : Gx LR w X "WhoRulesModel" b_m_findBought 8 9 207 (some .boolean)) (n : Nat) (k61 : Int → Int → Int → Int → Int → Mm → Rr) (hk61 : ∀ (x1 x2 x3 x4 x5 : Int) (hx1 : inR x1) (hx2 : inR x2) (hx3 : inB x3) (hx4 : inR x4) (hx5 : inR x5) (M : Mm), k61 x1 x2 x3 x4 x5 M = some (r, M9) → VJ LR w X 8 3 r M9 M [(0, .ref (wa w 0)), (1, .int (i32 x1)), (2, .int (i32 x2)), (3, .int (i32 x3)), (4, .int (i32 x4)), (5, .int (i32 x5))] [] 61) (x1 x2 x3 x4 x5 x6 : Int) (hx1 : inR x1) (hx2 : inR x2) (hx3 : inB x3) (hx4 : inR x4) (hx5 : inR x5) (hx6 : inR x6) (M : Mm) (hF : f_m_findBought_162 n k61 x1 x2 x3 x4 x5 x6 M = some (r, M9)) : VJ LR w X 8 3 r M9 M [(0, .ref (wa w 0)), (1, .int (i32 x1)), (2, .int (i32 x2)), (3, .int (i32 x3)), (4, .int (i32 x4)), (5, .int (i32 x5)), (6, .int (i32 x6))] [] 162 := by
  have G := G0.1
  unfold f_m_findBought_162 at hF
  refine vj_aload_n G (p9 := 0) d_m_findBought_162 rfl rfl ?_
  refine vj_aload_n G (p9 := 0) d_m_findBought_163 rfl rfl ?_
  refine gfR_m_7 G d_m_findBought_164 ?_
  refine vj_mr (fun hM1 => ?_)
  obtain ⟨r2, M2, e2, hF⟩ := bnd_some hF
  refine vj_callV0 G (ct_m_layOut (gx_ij G) n (M 0 0) (mr_o hM1 lkR_0 flR_0_0) e2) lkR_0 clR_0 rfl q_1676 cq_m_layOut rfl (by decide) (by decide) (Nat.le_of_ble_eq_true rfl) d_m_findBought_167 rfl (fun hr2 => ?_)
  refine vj_iconst G (v := 0) d_m_findBought_170 rfl ?_
  refine vj_istore G (lv2 := [(7, .int (i32 0)), (0, .ref (wa w 0)), (1, .int (i32 x1)), (2, .int (i32 x2)), (3, .int (i32 x3)), (4, .int (i32 x4)), (5, .int (i32 x5)), (6, .int (i32 x6))]) d_m_findBought_171 (by decide) rfl ?_
  refine vj_sub [1, 2, 3, 4, 5, 6, 7, 0] rfl ?_
  exact wl_m_findBought_173 G0 n k61 hk61 n x1 x2 x3 x4 x5 x6 0 hx1 hx2 hx3 hx4 hx5 hx6 ic_0 _ hF
set_option maxHeartbeats 4000000 in
set_option maxRecDepth 100000 in
theorem wk_m_findBought_116 {w : Wd} {X : Cx} {r : Int} {M9 : Mm} (G0 : Gx LR w X "WhoRulesModel" b_m_findBought 8 9 207 (some .boolean)) (n : Nat) (k61 : Int → Int → Int → Int → Int → Mm → Rr) (hk61 : ∀ (x1 x2 x3 x4 x5 : Int) (hx1 : inR x1) (hx2 : inR x2) (hx3 : inB x3) (hx4 : inR x4) (hx5 : inR x5) (M : Mm), k61 x1 x2 x3 x4 x5 M = some (r, M9) → VJ LR w X 8 3 r M9 M [(0, .ref (wa w 0)), (1, .int (i32 x1)), (2, .int (i32 x2)), (3, .int (i32 x3)), (4, .int (i32 x4)), (5, .int (i32 x5))] [] 61) (k78 : Int → Int → Int → Int → Int → Int → Int → Mm → Rr) (hk78 : ∀ (x1 x2 x3 x4 x5 x6 x7 : Int) (hx1 : inR x1) (hx2 : inR x2) (hx3 : inB x3) (hx4 : inR x4) (hx5 : inR x5) (hx6 : inR x6) (hx7 : inR x7) (M : Mm), k78 x1 x2 x3 x4 x5 x6 x7 M = some (r, M9) → VJ LR w X 8 3 r M9 M [(0, .ref (wa w 0)), (1, .int (i32 x1)), (2, .int (i32 x2)), (3, .int (i32 x3)), (4, .int (i32 x4)), (5, .int (i32 x5)), (6, .int (i32 x6)), (7, .int (i32 x7))] [] 78) (x1 x2 x3 x4 x5 x7 s0 s1 : Int) (hx1 : inR x1) (hx2 : inR x2) (hx3 : inB x3) (hx4 : inR x4) (hx5 : inR x5) (hx7 : inR x7) (hs0 : inR s0) (hs1 : inR s1) (M : Mm) (hF : f_m_findBought_116 n k61 k78 x1 x2 x3 x4 x5 x7 s0 s1 M = some (r, M9)) : VJ LR w X 8 3 r M9 M [(0, .ref (wa w 0)), (1, .int (i32 x1)), (2, .int (i32 x2)), (3, .int (i32 x3)), (4, .int (i32 x4)), (5, .int (i32 x5)), (7, .int (i32 x7))] [.int (i32 s1), .int (i32 s0)] 116 := by
  have G := G0.1
  unfold f_m_findBought_116 at hF
  refine vj_iadd G d_m_findBought_116 ?_
  refine vj_istore G (lv2 := [(6, .int (i32 (w32 (s0 + s1)))), (0, .ref (wa w 0)), (1, .int (i32 x1)), (2, .int (i32 x2)), (3, .int (i32 x3)), (4, .int (i32 x4)), (5, .int (i32 x5)), (7, .int (i32 x7))]) d_m_findBought_117 (by decide) rfl ?_
  refine vj_iinc G (p9 := 7) (n := 1) (lv2 := [(7, .int (i32 (w32 (x7 + 1)))), (6, .int (i32 (w32 (s0 + s1)))), (0, .ref (wa w 0)), (1, .int (i32 x1)), (2, .int (i32 x2)), (3, .int (i32 x3)), (4, .int (i32 x4)), (5, .int (i32 x5))]) d_m_findBought_119 rfl (by decide) rfl ?_
  refine vj_goto G (tgt := 78) d_m_findBought_122 (by decide) ?_
  refine vj_sub [2, 3, 4, 5, 6, 7, 1, 0] rfl ?_
  exact hk78 x1 x2 x3 x4 x5 (w32 (s0 + s1)) (w32 (x7 + 1)) hx1 hx2 hx3 hx4 hx5 (ir_w _) (ir_w _) _ hF
set_option maxHeartbeats 4000000 in
set_option maxRecDepth 100000 in
theorem wk_m_findBought_78 {w : Wd} {X : Cx} {r : Int} {M9 : Mm} (G0 : Gx LR w X "WhoRulesModel" b_m_findBought 8 9 207 (some .boolean)) (n : Nat) (k61 : Int → Int → Int → Int → Int → Mm → Rr) (hk61 : ∀ (x1 x2 x3 x4 x5 : Int) (hx1 : inR x1) (hx2 : inR x2) (hx3 : inB x3) (hx4 : inR x4) (hx5 : inR x5) (M : Mm), k61 x1 x2 x3 x4 x5 M = some (r, M9) → VJ LR w X 8 3 r M9 M [(0, .ref (wa w 0)), (1, .int (i32 x1)), (2, .int (i32 x2)), (3, .int (i32 x3)), (4, .int (i32 x4)), (5, .int (i32 x5))] [] 61) (k78 : Int → Int → Int → Int → Int → Int → Int → Mm → Rr) (hk78 : ∀ (x1 x2 x3 x4 x5 x6 x7 : Int) (hx1 : inR x1) (hx2 : inR x2) (hx3 : inB x3) (hx4 : inR x4) (hx5 : inR x5) (hx6 : inR x6) (hx7 : inR x7) (M : Mm), k78 x1 x2 x3 x4 x5 x6 x7 M = some (r, M9) → VJ LR w X 8 3 r M9 M [(0, .ref (wa w 0)), (1, .int (i32 x1)), (2, .int (i32 x2)), (3, .int (i32 x3)), (4, .int (i32 x4)), (5, .int (i32 x5)), (6, .int (i32 x6)), (7, .int (i32 x7))] [] 78) (x1 x2 x3 x4 x5 x6 x7 : Int) (hx1 : inR x1) (hx2 : inR x2) (hx3 : inB x3) (hx4 : inR x4) (hx5 : inR x5) (hx6 : inR x6) (hx7 : inR x7) (M : Mm) (hF : f_m_findBought_78 n k61 k78 x1 x2 x3 x4 x5 x6 x7 M = some (r, M9)) : VJ LR w X 8 3 r M9 M [(0, .ref (wa w 0)), (1, .int (i32 x1)), (2, .int (i32 x2)), (3, .int (i32 x3)), (4, .int (i32 x4)), (5, .int (i32 x5)), (6, .int (i32 x6)), (7, .int (i32 x7))] [] 78 := by
  have G := G0.1
  unfold f_m_findBought_78 at hF
  refine vj_iload G (p9 := 7) d_m_findBought_78 rfl ?_
  refine vj_aload_n G (p9 := 0) d_m_findBought_80 rfl rfl ?_
  refine gfR_m_194 G d_m_findBought_81 ?_
  refine vj_mr (fun hM1 => ?_)
  refine vj_icmp_ge G (tgt := 125) d_m_findBought_84 (by decide) hx7 (mr_o hM1 lkR_0 flR_0_60) (fun c2 => ?_) (fun c2 => ?_)
  · rw [if_pos c2] at hF
    refine vj_iload_n G (p9 := 3) d_m_findBought_125 rfl rfl ?_
    refine vj_if_eq G (tgt := 162) d_m_findBought_126 (by decide) (ir_b hx3) (fun c3 => ?_) (fun c3 => ?_)
    · rw [if_pos c3] at hF
      refine vj_sub [0, 1, 2, 3, 4, 5, 6] rfl ?_
      exact wk_m_findBought_162 G0 n k61 hk61 x1 x2 x3 x4 x5 x6 hx1 hx2 hx3 hx4 hx5 hx6 _ hF
    · rw [if_neg c3] at hF
      refine vj_iload G (p9 := 6) d_m_findBought_129 rfl ?_
      refine vj_aload_n G (p9 := 0) d_m_findBought_131 rfl rfl ?_
      refine gfR_m_201 G d_m_findBought_132 ?_
      refine vj_mr (fun hM4 => ?_)
      refine vj_icmp_gt G (tgt := 282) d_m_findBought_135 (by decide) hx6 (mr_o hM4 lkR_0 flR_0_62) (fun c5 => ?_) (fun c5 => ?_)
      · rw [if_pos c5] at hF
        refine vj_sub [0, 1, 2, 3, 4, 5] rfl ?_
        exact wk_m_findBought_282 G0 n k61 hk61 x1 x2 x3 x4 x5 hx1 hx2 hx3 hx4 hx5 _ hF
      · rw [if_neg c5] at hF
        refine vj_iload G (p9 := 6) d_m_findBought_138 rfl ?_
        refine vj_aload_n G (p9 := 0) d_m_findBought_140 rfl rfl ?_
        refine gfR_m_201 G d_m_findBought_141 ?_
        refine vj_mr (fun hM6 => ?_)
        refine vj_icmp_ne G (tgt := 162) d_m_findBought_144 (by decide) hx6 (mr_o hM6 lkR_0 flR_0_62) (fun c7 => ?_) (fun c7 => ?_)
        · rw [if_pos c7] at hF
          refine vj_sub [0, 1, 2, 3, 4, 5, 6] rfl ?_
          exact wk_m_findBought_162 G0 n k61 hk61 x1 x2 x3 x4 x5 x6 hx1 hx2 hx3 hx4 hx5 hx6 _ hF
        · rw [if_neg c7] at hF
          refine vj_aload_n G (p9 := 0) d_m_findBought_147 rfl rfl ?_
          refine vj_iload G (p9 := 5) d_m_findBought_148 rfl ?_
          refine vj_i2l G d_m_findBought_150 hx5 ?_
          obtain ⟨r8, M8, e8, hF⟩ := bnd_some hF
          refine vj_callV1 G (ct_m_ones (gx_ij G) n x5 (lr_i hx5) e8) lkR_0 clR_0 rfl q_1802 cq_m_ones rfl (by decide) (by decide) (Nat.le_of_ble_eq_true rfl) d_m_findBought_151 rfl (fun hr8 => ?_)
          refine vj_iload G (p9 := 4) d_m_findBought_154 rfl ?_
          refine vj_icmp_lt G (tgt := 162) d_m_findBought_156 (by decide) hr8 hx4 (fun c9 => ?_) (fun c9 => ?_)
          · rw [if_pos c9] at hF
            refine vj_sub [0, 1, 2, 3, 4, 5, 6] rfl ?_
            exact wk_m_findBought_162 G0 n k61 hk61 x1 x2 x3 x4 x5 x6 hx1 hx2 hx3 hx4 hx5 hx6 _ hF
          · rw [if_neg c9] at hF
            refine vj_goto G (tgt := 282) d_m_findBought_159 (by decide) ?_
            refine vj_sub [0, 1, 2, 3, 4, 5] rfl ?_
            exact wk_m_findBought_282 G0 n k61 hk61 x1 x2 x3 x4 x5 hx1 hx2 hx3 hx4 hx5 _ hF
  · rw [if_neg c2] at hF
    refine vj_iload G (p9 := 6) d_m_findBought_87 rfl ?_
    refine vj_iload G (p9 := 5) d_m_findBought_89 rfl ?_
    refine vj_iload G (p9 := 7) d_m_findBought_91 rfl ?_
    refine vj_ishr G d_m_findBought_93 ?_
    refine vj_iconst G (v := 1) d_m_findBought_94 rfl ?_
    refine vj_iand G d_m_findBought_95 ?_
    refine vj_iconst G (v := 1) d_m_findBought_96 rfl ?_
    refine vj_icmp_ne G (tgt := 115) d_m_findBought_97 (by decide) (ir_an _ _) ic_1 (fun c10 => ?_) (fun c10 => ?_)
    · rw [if_pos c10] at hF
      refine vj_iconst G (v := 0) d_m_findBought_115 rfl ?_
      refine vj_sub [0, 1, 2, 3, 4, 5, 7] rfl ?_
      exact wk_m_findBought_116 G0 n k61 hk61 k78 hk78 x1 x2 x3 x4 x5 x7 x6 0 hx1 hx2 hx3 hx4 hx5 hx7 hx6 ic_0 _ hF
    · rw [if_neg c10] at hF
      refine vj_aload_n G (p9 := 0) d_m_findBought_100 rfl rfl ?_
      refine gfR_m_44 G d_m_findBought_101 ?_
      refine vj_aload_n G (p9 := 0) d_m_findBought_104 rfl rfl ?_
      refine gfR_m_188 G d_m_findBought_105 ?_
      refine vj_iload G (p9 := 7) d_m_findBought_108 rfl ?_
      obtain ⟨c11, hF⟩ := ck_some hF
      refine vj_iald G (x := x7) lkR_38 (by decide) c11 d_m_findBought_110 ?_
      refine vj_mr (fun hM12 => ?_)
      obtain ⟨c13, hF⟩ := ck_some hF
      refine vj_iald G (x := (M 38 x7.toNat)) lkR_7 (by decide) c13 d_m_findBought_111 ?_
      refine vj_goto G (tgt := 116) d_m_findBought_112 (by decide) ?_
      refine vj_sub [0, 1, 2, 3, 4, 5, 7] rfl ?_
      exact wk_m_findBought_116 G0 n k61 hk61 k78 hk78 x1 x2 x3 x4 x5 x7 x6 (M 7 (M 38 x7.toNat).toNat) hx1 hx2 hx3 hx4 hx5 hx7 hx6 (mr_a hM12 lkR_7) _ hF
set_option maxHeartbeats 4000000 in
set_option maxRecDepth 100000 in
theorem wl_m_findBought_78 {w : Wd} {X : Cx} {r : Int} {M9 : Mm} (G0 : Gx LR w X "WhoRulesModel" b_m_findBought 8 9 207 (some .boolean)) (n : Nat) (k61 : Int → Int → Int → Int → Int → Mm → Rr) (hk61 : ∀ (x1 x2 x3 x4 x5 : Int) (hx1 : inR x1) (hx2 : inR x2) (hx3 : inB x3) (hx4 : inR x4) (hx5 : inR x5) (M : Mm), k61 x1 x2 x3 x4 x5 M = some (r, M9) → VJ LR w X 8 3 r M9 M [(0, .ref (wa w 0)), (1, .int (i32 x1)), (2, .int (i32 x2)), (3, .int (i32 x3)), (4, .int (i32 x4)), (5, .int (i32 x5))] [] 61) : ∀ (f : Nat) (x1 x2 x3 x4 x5 x6 x7 : Int) (hx1 : inR x1) (hx2 : inR x2) (hx3 : inB x3) (hx4 : inR x4) (hx5 : inR x5) (hx6 : inR x6) (hx7 : inR x7) (M : Mm), lp_m_findBought_78 n k61 f x1 x2 x3 x4 x5 x6 x7 M = some (r, M9) → VJ LR w X 8 3 r M9 M [(0, .ref (wa w 0)), (1, .int (i32 x1)), (2, .int (i32 x2)), (3, .int (i32 x3)), (4, .int (i32 x4)), (5, .int (i32 x5)), (6, .int (i32 x6)), (7, .int (i32 x7))] [] 78 := by
  intro f
  induction f with
  | zero => intro x1 x2 x3 x4 x5 x6 x7 hx1 hx2 hx3 hx4 hx5 hx6 hx7 M hF; cases hF
  | succ f ih => intro x1 x2 x3 x4 x5 x6 x7 hx1 hx2 hx3 hx4 hx5 hx6 hx7 M hF; exact wk_m_findBought_78 G0 n k61 hk61 (lp_m_findBought_78 n k61 f) ih x1 x2 x3 x4 x5 x6 x7 hx1 hx2 hx3 hx4 hx5 hx6 hx7 M hF
set_option maxHeartbeats 4000000 in
set_option maxRecDepth 100000 in
theorem wk_m_findBought_61 {w : Wd} {X : Cx} {r : Int} {M9 : Mm} (G0 : Gx LR w X "WhoRulesModel" b_m_findBought 8 9 207 (some .boolean)) (n : Nat) (k61 : Int → Int → Int → Int → Int → Mm → Rr) (hk61 : ∀ (x1 x2 x3 x4 x5 : Int) (hx1 : inR x1) (hx2 : inR x2) (hx3 : inB x3) (hx4 : inR x4) (hx5 : inR x5) (M : Mm), k61 x1 x2 x3 x4 x5 M = some (r, M9) → VJ LR w X 8 3 r M9 M [(0, .ref (wa w 0)), (1, .int (i32 x1)), (2, .int (i32 x2)), (3, .int (i32 x3)), (4, .int (i32 x4)), (5, .int (i32 x5))] [] 61) (x1 x2 x3 x4 x5 : Int) (hx1 : inR x1) (hx2 : inR x2) (hx3 : inB x3) (hx4 : inR x4) (hx5 : inR x5) (M : Mm) (hF : f_m_findBought_61 n k61 x1 x2 x3 x4 x5 M = some (r, M9)) : VJ LR w X 8 3 r M9 M [(0, .ref (wa w 0)), (1, .int (i32 x1)), (2, .int (i32 x2)), (3, .int (i32 x3)), (4, .int (i32 x4)), (5, .int (i32 x5))] [] 61 := by
  have G := G0.1
  unfold f_m_findBought_61 at hF
  refine vj_iload G (p9 := 5) d_m_findBought_61 rfl ?_
  refine vj_iconst G (v := 1) d_m_findBought_63 rfl ?_
  refine vj_aload_n G (p9 := 0) d_m_findBought_64 rfl rfl ?_
  refine gfR_m_194 G d_m_findBought_65 ?_
  refine vj_mr (fun hM1 => ?_)
  refine vj_ishl G d_m_findBought_68 ?_
  refine vj_icmp_ge G (tgt := 288) d_m_findBought_69 (by decide) hx5 (ir_sh _ _) (fun c2 => ?_) (fun c2 => ?_)
  · rw [if_pos c2] at hF
    refine vj_iload_n G (p9 := 3) d_m_findBought_288 rfl rfl ?_
    cases hF
    exact vj_zret G0 hx3 d_m_findBought_289
  · rw [if_neg c2] at hF
    refine vj_iconst G (v := 0) d_m_findBought_72 rfl ?_
    refine vj_istore G (lv2 := [(6, .int (i32 0)), (0, .ref (wa w 0)), (1, .int (i32 x1)), (2, .int (i32 x2)), (3, .int (i32 x3)), (4, .int (i32 x4)), (5, .int (i32 x5))]) d_m_findBought_73 (by decide) rfl ?_
    refine vj_iconst G (v := 0) d_m_findBought_75 rfl ?_
    refine vj_istore G (lv2 := [(7, .int (i32 0)), (6, .int (i32 0)), (0, .ref (wa w 0)), (1, .int (i32 x1)), (2, .int (i32 x2)), (3, .int (i32 x3)), (4, .int (i32 x4)), (5, .int (i32 x5))]) d_m_findBought_76 (by decide) rfl ?_
    refine vj_sub [2, 3, 4, 5, 6, 7, 1, 0] rfl ?_
    exact wl_m_findBought_78 G0 n k61 hk61 n x1 x2 x3 x4 x5 0 0 hx1 hx2 hx3 hx4 hx5 ic_0 ic_0 _ hF
set_option maxHeartbeats 4000000 in
set_option maxRecDepth 100000 in
theorem wl_m_findBought_61 {w : Wd} {X : Cx} {r : Int} {M9 : Mm} (G0 : Gx LR w X "WhoRulesModel" b_m_findBought 8 9 207 (some .boolean)) (n : Nat) : ∀ (f : Nat) (x1 x2 x3 x4 x5 : Int) (hx1 : inR x1) (hx2 : inR x2) (hx3 : inB x3) (hx4 : inR x4) (hx5 : inR x5) (M : Mm), lp_m_findBought_61 n f x1 x2 x3 x4 x5 M = some (r, M9) → VJ LR w X 8 3 r M9 M [(0, .ref (wa w 0)), (1, .int (i32 x1)), (2, .int (i32 x2)), (3, .int (i32 x3)), (4, .int (i32 x4)), (5, .int (i32 x5))] [] 61 := by
  intro f
  induction f with
  | zero => intro x1 x2 x3 x4 x5 hx1 hx2 hx3 hx4 hx5 M hF; cases hF
  | succ f ih => intro x1 x2 x3 x4 x5 hx1 hx2 hx3 hx4 hx5 M hF; exact wk_m_findBought_61 G0 n (lp_m_findBought_61 n f) ih x1 x2 x3 x4 x5 hx1 hx2 hx3 hx4 hx5 M hF
set_option maxHeartbeats 4000000 in
set_option maxRecDepth 100000 in
theorem wk_m_findBought_47 {w : Wd} {X : Cx} {r : Int} {M9 : Mm} (G0 : Gx LR w X "WhoRulesModel" b_m_findBought 8 9 207 (some .boolean)) (n : Nat) (k15 : Int → Int → Int → Mm → Rr) (hk15 : ∀ (x1 x2 x3 : Int) (hx1 : inR x1) (hx2 : inR x2) (hx3 : inR x3) (M : Mm), k15 x1 x2 x3 M = some (r, M9) → VJ LR w X 8 3 r M9 M [(0, .ref (wa w 0)), (1, .int (i32 x1)), (2, .int (i32 x2)), (3, .int (i32 x3))] [] 15) (x1 x2 x3 : Int) (hx1 : inR x1) (hx2 : inR x2) (hx3 : inR x3) (M : Mm) (hF : f_m_findBought_47 n k15 x1 x2 x3 M = some (r, M9)) : VJ LR w X 8 3 r M9 M [(0, .ref (wa w 0)), (1, .int (i32 x1)), (2, .int (i32 x2)), (3, .int (i32 x3))] [] 47 := by
  have G := G0.1
  unfold f_m_findBought_47 at hF
  refine vj_iinc G (p9 := 3) (n := 1) (lv2 := [(3, .int (i32 (w32 (x3 + 1)))), (0, .ref (wa w 0)), (1, .int (i32 x1)), (2, .int (i32 x2))]) d_m_findBought_47 rfl (by decide) rfl ?_
  refine vj_goto G (tgt := 15) d_m_findBought_50 (by decide) ?_
  refine vj_sub [1, 2, 3, 0] rfl ?_
  exact hk15 x1 x2 (w32 (x3 + 1)) hx1 hx2 (ir_w _) _ hF
set_option maxHeartbeats 4000000 in
set_option maxRecDepth 100000 in
theorem wk_m_findBought_15 {w : Wd} {X : Cx} {r : Int} {M9 : Mm} (G0 : Gx LR w X "WhoRulesModel" b_m_findBought 8 9 207 (some .boolean)) (n : Nat) (k15 : Int → Int → Int → Mm → Rr) (hk15 : ∀ (x1 x2 x3 : Int) (hx1 : inR x1) (hx2 : inR x2) (hx3 : inR x3) (M : Mm), k15 x1 x2 x3 M = some (r, M9) → VJ LR w X 8 3 r M9 M [(0, .ref (wa w 0)), (1, .int (i32 x1)), (2, .int (i32 x2)), (3, .int (i32 x3))] [] 15) (x1 x2 x3 : Int) (hx1 : inR x1) (hx2 : inR x2) (hx3 : inR x3) (M : Mm) (hF : f_m_findBought_15 n k15 x1 x2 x3 M = some (r, M9)) : VJ LR w X 8 3 r M9 M [(0, .ref (wa w 0)), (1, .int (i32 x1)), (2, .int (i32 x2)), (3, .int (i32 x3))] [] 15 := by
  have G := G0.1
  unfold f_m_findBought_15 at hF
  refine vj_iload_n G (p9 := 3) d_m_findBought_15 rfl rfl ?_
  refine vj_aload_n G (p9 := 0) d_m_findBought_16 rfl rfl ?_
  refine gfR_m_19 G d_m_findBought_17 ?_
  refine vj_mr (fun hM1 => ?_)
  refine vj_icmp_ge G (tgt := 53) d_m_findBought_20 (by decide) hx3 (mr_o hM1 lkR_0 flR_0_3) (fun c2 => ?_) (fun c2 => ?_)
  · rw [if_pos c2] at hF
    refine vj_iconst G (v := 0) d_m_findBought_53 rfl ?_
    refine vj_istore_n G (lv2 := [(3, .int (i32 0)), (0, .ref (wa w 0)), (1, .int (i32 x1)), (2, .int (i32 x2))]) d_m_findBought_54 rfl (by decide) rfl ?_
    refine vj_iconst G (v := 0) d_m_findBought_55 rfl ?_
    refine vj_istore G (lv2 := [(4, .int (i32 0)), (3, .int (i32 0)), (0, .ref (wa w 0)), (1, .int (i32 x1)), (2, .int (i32 x2))]) d_m_findBought_56 (by decide) rfl ?_
    refine vj_iconst G (v := 0) d_m_findBought_58 rfl ?_
    refine vj_istore G (lv2 := [(5, .int (i32 0)), (4, .int (i32 0)), (3, .int (i32 0)), (0, .ref (wa w 0)), (1, .int (i32 x1)), (2, .int (i32 x2))]) d_m_findBought_59 (by decide) rfl ?_
    refine vj_sub [3, 4, 5, 2, 1, 0] rfl ?_
    exact wl_m_findBought_61 G0 n  n x1 x2 0 0 0 hx1 hx2 (Or.inl rfl) ic_0 ic_0 _ hF
  · rw [if_neg c2] at hF
    refine vj_aload_n G (p9 := 0) d_m_findBought_23 rfl rfl ?_
    refine gfR_m_44 G d_m_findBought_24 ?_
    refine vj_iload_n G (p9 := 3) d_m_findBought_27 rfl rfl ?_
    obtain ⟨c3, hF⟩ := ck_some hF
    refine vj_iald G (x := x3) lkR_7 (by decide) c3 d_m_findBought_28 ?_
    refine vj_mr (fun hM4 => ?_)
    refine vj_if_le G (tgt := 47) d_m_findBought_29 (by decide) (mr_a hM4 lkR_7) (fun c5 => ?_) (fun c5 => ?_)
    · rw [if_pos c5] at hF
      exact wk_m_findBought_47 G0 n k15 hk15 x1 x2 x3 hx1 hx2 hx3 _ hF
    · rw [if_neg c5] at hF
      refine vj_aload_n G (p9 := 0) d_m_findBought_32 rfl rfl ?_
      refine gfR_m_130 G d_m_findBought_33 ?_
      refine vj_iload_n G (p9 := 3) d_m_findBought_36 rfl rfl ?_
      obtain ⟨c6, hF⟩ := ck_some hF
      refine vj_iald G (x := x3) lkR_22 (by decide) c6 d_m_findBought_37 ?_
      refine vj_mr (fun hM7 => ?_)
      refine vj_iload_n G (p9 := 1) d_m_findBought_38 rfl rfl ?_
      refine vj_icmp_eq G (tgt := 47) d_m_findBought_39 (by decide) (mr_a hM7 lkR_22) hx1 (fun c8 => ?_) (fun c8 => ?_)
      · rw [if_pos c8] at hF
        exact wk_m_findBought_47 G0 n k15 hk15 x1 x2 x3 hx1 hx2 hx3 _ hF
      · rw [if_neg c8] at hF
        refine vj_aload_n G (p9 := 0) d_m_findBought_42 rfl rfl ?_
        refine vj_iload_n G (p9 := 3) d_m_findBought_43 rfl rfl ?_
        obtain ⟨r9, M9, e9, hF⟩ := bnd_some hF
        refine vj_callV0 G (ct_m_good (gx_ij G) n x3 hx3 e9) lkR_0 clR_0 rfl q_1798 cq_m_good rfl (by decide) (by decide) (Nat.le_of_ble_eq_true rfl) d_m_findBought_44 rfl (fun hr9 => ?_)
        exact wk_m_findBought_47 G0 n k15 hk15 x1 x2 x3 hx1 hx2 hx3 _ hF
set_option maxHeartbeats 4000000 in
set_option maxRecDepth 100000 in
theorem wl_m_findBought_15 {w : Wd} {X : Cx} {r : Int} {M9 : Mm} (G0 : Gx LR w X "WhoRulesModel" b_m_findBought 8 9 207 (some .boolean)) (n : Nat) : ∀ (f : Nat) (x1 x2 x3 : Int) (hx1 : inR x1) (hx2 : inR x2) (hx3 : inR x3) (M : Mm), lp_m_findBought_15 n f x1 x2 x3 M = some (r, M9) → VJ LR w X 8 3 r M9 M [(0, .ref (wa w 0)), (1, .int (i32 x1)), (2, .int (i32 x2)), (3, .int (i32 x3))] [] 15 := by
  intro f
  induction f with
  | zero => intro x1 x2 x3 hx1 hx2 hx3 M hF; cases hF
  | succ f ih => intro x1 x2 x3 hx1 hx2 hx3 M hF; exact wk_m_findBought_15 G0 n (lp_m_findBought_15 n f) ih x1 x2 x3 hx1 hx2 hx3 M hF
set_option maxHeartbeats 4000000 in
set_option maxRecDepth 100000 in
theorem ct_m_findBought {w : Wd} (hij : ij LR w) (n : Nat) (x1 x2 : Int) (hx1 : inR x1) (hx2 : inR x2) {M : Mm} {r : Int} {M9 : Mm} (hF : f_m_findBought n x1 x2 M = some (r, M9)) : Ct LR w y_m_findBought b_m_findBought 8 (some .boolean) 9 207 3 [.ref (wa w 0), .int (i32 x1), .int (i32 x2)] M r M9 := by
  refine Ct.of hij KstR (by decide +kernel) (Nat.le_of_ble_eq_true rfl) (fun X G0 => ?_)
  have G := G0.1
  show VJ LR w X 8 3 r M9 M [(0, .ref (wa w 0)), (1, .int (i32 x1)), (2, .int (i32 x2))] [] 0
  unfold f_m_findBought at hF
  refine vj_aload_n G (p9 := 0) d_m_findBought_0 rfl rfl ?_
  refine vj_iconst G (v := 0) d_m_findBought_1 rfl ?_
  refine pfR_m_194 G ic_0 d_m_findBought_2 ?_
  refine vj_aload_n G (p9 := 0) d_m_findBought_5 rfl rfl ?_
  refine vj_aload_n G (p9 := 0) d_m_findBought_6 rfl rfl ?_
  refine gfR_m_7 G d_m_findBought_7 ?_
  refine vj_mr (fun hM1 => ?_)
  obtain ⟨r2, M2, e2, hF⟩ := bnd_some hF
  refine vj_callV0 G (ct_m_layOut (gx_ij G) n ((mset M 0 60 0) 0 0) (mr_o hM1 lkR_0 flR_0_0) e2) lkR_0 clR_0 rfl q_1676 cq_m_layOut rfl (by decide) (by decide) (Nat.le_of_ble_eq_true rfl) d_m_findBought_10 rfl (fun hr2 => ?_)
  refine vj_iconst G (v := 0) d_m_findBought_13 rfl ?_
  refine vj_istore_n G (lv2 := [(3, .int (i32 0)), (0, .ref (wa w 0)), (1, .int (i32 x1)), (2, .int (i32 x2))]) d_m_findBought_14 rfl (by decide) rfl ?_
  refine vj_sub [1, 2, 3, 0] rfl ?_
  exact wl_m_findBought_15 G0 n  n x1 x2 0 hx1 hx2 ic_0 _ hF
set_option maxHeartbeats 4000000 in
set_option maxRecDepth 100000 in
theorem ct_m_buy {w : Wd} (hij : ij LR w) (n : Nat) (x1 x2 x3 : Int) (hx1 : inR x1) (hx2 : inR x2) (hx3 : inR x3) {M : Mm} {r : Int} {M9 : Mm} (hF : f_m_buy n x1 x2 x3 M = some (r, M9)) : Ct LR w y_m_buy b_m_buy 4 (some .long) 10 234 2 [.ref (wa w 0), .int (i32 x1), .int (i32 x2), .int (i32 x3)] M r M9 := by
  refine Ct.of hij KstR (by decide +kernel) (Nat.le_of_ble_eq_true rfl) (fun X G0 => ?_)
  have G := G0.1
  show VJ LR w X 4 2 r M9 M [(0, .ref (wa w 0)), (1, .int (i32 x1)), (2, .int (i32 x2)), (3, .int (i32 x3))] [] 0
  unfold f_m_buy at hF
  refine vj_aload_n G (p9 := 0) d_m_buy_0 rfl rfl ?_
  refine vj_iload_n G (p9 := 1) d_m_buy_1 rfl rfl ?_
  obtain ⟨r1, M1, e1, hF⟩ := bnd_some hF
  refine vj_callV3 G (ct_m_isRuler (gx_ij G) n x1 hx1 e1) lkR_0 clR_0 rfl q_1708 cq_m_isRuler rfl (by decide) (by decide) (Nat.le_of_ble_eq_true rfl) d_m_buy_2 rfl (fun hr1 => ?_)
  refine vj_if_eq G (tgt := 26) d_m_buy_5 (by decide) (ir_b hr1) (fun c2 => ?_) (fun c2 => ?_)
  · rw [if_pos c2] at hF
    refine vj_ldc2 G (v := (-9223372036854775808)) d_m_buy_26 q_1748 rfl ?_
    cases hF
    exact vj_lret G0 ⟨by decide, by decide⟩ d_m_buy_29
  · rw [if_neg c2] at hF
    refine vj_aload_n G (p9 := 0) d_m_buy_8 rfl rfl ?_
    refine vj_iload_n G (p9 := 2) d_m_buy_9 rfl rfl ?_
    obtain ⟨r3, M3, e3, hF⟩ := bnd_some hF
    refine vj_callV3 G (ct_m_isFirm (gx_ij G) n x2 hx2 e3) lkR_0 clR_0 rfl q_1555 cq_m_isFirm rfl (by decide) (by decide) (Nat.le_of_ble_eq_true rfl) d_m_buy_10 rfl (fun hr3 => ?_)
    refine vj_if_eq G (tgt := 26) d_m_buy_13 (by decide) (ir_b hr3) (fun c4 => ?_) (fun c4 => ?_)
    · rw [if_pos c4] at hF
      refine vj_ldc2 G (v := (-9223372036854775808)) d_m_buy_26 q_1748 rfl ?_
      cases hF
      exact vj_lret G0 ⟨by decide, by decide⟩ d_m_buy_29
    · rw [if_neg c4] at hF
      refine vj_aload_n G (p9 := 0) d_m_buy_16 rfl rfl ?_
      refine vj_iload_n G (p9 := 3) d_m_buy_17 rfl rfl ?_
      refine vj_iconst G (v := 0) d_m_buy_18 rfl ?_
      refine vj_iconst G (v := 1) d_m_buy_19 rfl ?_
      obtain ⟨r5, M5, e5, hF⟩ := bnd_some hF
      refine vj_callV3 G (ct_m_in (gx_ij G) n x3 0 1 hx3 ic_0 ic_1 e5) lkR_0 clR_0 rfl q_1543 cq_m_in rfl (by decide) (by decide) (Nat.le_of_ble_eq_true rfl) d_m_buy_20 rfl (fun hr5 => ?_)
      refine vj_if_ne G (tgt := 30) d_m_buy_23 (by decide) (ir_b hr5) (fun c6 => ?_) (fun c6 => ?_)
      · rw [if_pos c6] at hF
        refine vj_aload_n G (p9 := 0) d_m_buy_30 rfl rfl ?_
        refine vj_iload_n G (p9 := 1) d_m_buy_31 rfl rfl ?_
        refine vj_iload_n G (p9 := 2) d_m_buy_32 rfl rfl ?_
        obtain ⟨r7, M7, e7, hF⟩ := bnd_some hF
        refine vj_callV3 G (ct_m_findBought (gx_ij G) n x1 x2 hx1 hx2 e7) lkR_0 clR_0 rfl q_1794 cq_m_findBought rfl (by decide) (by decide) (Nat.le_of_ble_eq_true rfl) d_m_buy_33 rfl (fun hr7 => ?_)
        refine vj_if_ne G (tgt := 43) d_m_buy_36 (by decide) (ir_b hr7) (fun c8 => ?_) (fun c8 => ?_)
        · rw [if_pos c8] at hF
          refine vj_iload_n G (p9 := 3) d_m_buy_43 rfl rfl ?_
          refine vj_if_ne G (tgt := 54) d_m_buy_44 (by decide) hx3 (fun c9 => ?_) (fun c9 => ?_)
          · rw [if_pos c9] at hF
            refine vj_aload_n G (p9 := 0) d_m_buy_54 rfl rfl ?_
            refine gfR_m_201 G d_m_buy_55 ?_
            refine vj_mr (fun hM10 => ?_)
            refine vj_i2l G d_m_buy_58 (mr_o hM10 lkR_0 flR_0_62) ?_
            cases hF
            exact vj_lret G0 (lr_i (mr_o hM10 lkR_0 flR_0_62)) d_m_buy_59
          · rw [if_neg c9] at hF
            refine vj_aload_n G (p9 := 0) d_m_buy_47 rfl rfl ?_
            refine gfR_m_197 G d_m_buy_48 ?_
            refine vj_mr (fun hM11 => ?_)
            refine vj_goto G (tgt := 59) d_m_buy_51 (by decide) ?_
            cases hF
            exact vj_lret G0 (mr_ol hM11 lkR_0 flR_0_61) d_m_buy_59
        · rw [if_neg c8] at hF
          refine vj_ldc2 G (v := (-5)) d_m_buy_39 q_1810 rfl ?_
          cases hF
          exact vj_lret G0 ⟨by decide, by decide⟩ d_m_buy_42
      · rw [if_neg c6] at hF
        refine vj_ldc2 G (v := (-9223372036854775808)) d_m_buy_26 q_1748 rfl ?_
        cases hF
        exact vj_lret G0 ⟨by decide, by decide⟩ d_m_buy_29
set_option maxHeartbeats 4000000 in
set_option maxRecDepth 100000 in
theorem wk_m_sold_108 {w : Wd} {X : Cx} {r : Int} {M9 : Mm} (G0 : Gx LR w X "WhoRulesModel" b_m_sold 4 11 249 (some .int)) (n : Nat) (k67 : Int → Int → Mm → Rr) (hk67 : ∀ (x2 x3 : Int) (hx2 : inR x2) (hx3 : inR x3) (M : Mm), k67 x2 x3 M = some (r, M9) → VJ LR w X 4 1 r M9 M [(0, .ref (wa w 0)), (2, .int (i32 x2)), (3, .int (i32 x3))] [] 67) (x3 s0 s1 : Int) (hx3 : inR x3) (hs0 : inR s0) (hs1 : inR s1) (M : Mm) (hF : f_m_sold_108 n k67 x3 s0 s1 M = some (r, M9)) : VJ LR w X 4 1 r M9 M [(0, .ref (wa w 0)), (3, .int (i32 x3))] [.int (i32 s1), .int (i32 s0)] 108 := by
  have G := G0.1
  unfold f_m_sold_108 at hF
  refine vj_ior G d_m_sold_108 ?_
  refine vj_istore_n G (lv2 := [(2, .int (i32 (ior s0 s1))), (0, .ref (wa w 0)), (3, .int (i32 x3))]) d_m_sold_109 rfl (by decide) rfl ?_
  refine vj_iinc G (p9 := 2) (n := 1) (lv2 := [(3, .int (i32 (w32 (x3 + 1)))), (2, .int (i32 (ior s0 s1))), (0, .ref (wa w 0))]) d_m_sold_110 rfl (by decide) rfl ?_
  refine vj_goto G (tgt := 67) d_m_sold_113 (by decide) ?_
  refine vj_sub [2, 1, 0] rfl ?_
  exact hk67 (ior s0 s1) (w32 (x3 + 1)) (ir_or _ _) (ir_w _) _ hF
set_option maxHeartbeats 4000000 in
set_option maxRecDepth 100000 in
theorem wk_m_sold_107 {w : Wd} {X : Cx} {r : Int} {M9 : Mm} (G0 : Gx LR w X "WhoRulesModel" b_m_sold 4 11 249 (some .int)) (n : Nat) (k67 : Int → Int → Mm → Rr) (hk67 : ∀ (x2 x3 : Int) (hx2 : inR x2) (hx3 : inR x3) (M : Mm), k67 x2 x3 M = some (r, M9) → VJ LR w X 4 1 r M9 M [(0, .ref (wa w 0)), (2, .int (i32 x2)), (3, .int (i32 x3))] [] 67) (x3 s0 : Int) (hx3 : inR x3) (hs0 : inR s0) (M : Mm) (hF : f_m_sold_107 n k67 x3 s0 M = some (r, M9)) : VJ LR w X 4 1 r M9 M [(0, .ref (wa w 0)), (3, .int (i32 x3))] [.int (i32 s0)] 107 := by
  have G := G0.1
  unfold f_m_sold_107 at hF
  refine vj_iconst G (v := 0) d_m_sold_107 rfl ?_
  exact wk_m_sold_108 G0 n k67 hk67 x3 s0 0 hx3 hs0 ic_0 _ hF
set_option maxHeartbeats 4000000 in
set_option maxRecDepth 100000 in
theorem wk_m_sold_67 {w : Wd} {X : Cx} {r : Int} {M9 : Mm} (G0 : Gx LR w X "WhoRulesModel" b_m_sold 4 11 249 (some .int)) (n : Nat) (k67 : Int → Int → Mm → Rr) (hk67 : ∀ (x2 x3 : Int) (hx2 : inR x2) (hx3 : inR x3) (M : Mm), k67 x2 x3 M = some (r, M9) → VJ LR w X 4 1 r M9 M [(0, .ref (wa w 0)), (2, .int (i32 x2)), (3, .int (i32 x3))] [] 67) (x2 x3 : Int) (hx2 : inR x2) (hx3 : inR x3) (M : Mm) (hF : f_m_sold_67 n k67 x2 x3 M = some (r, M9)) : VJ LR w X 4 1 r M9 M [(0, .ref (wa w 0)), (2, .int (i32 x2)), (3, .int (i32 x3))] [] 67 := by
  have G := G0.1
  unfold f_m_sold_67 at hF
  refine vj_iload_n G (p9 := 2) d_m_sold_67 rfl rfl ?_
  refine vj_aload_n G (p9 := 0) d_m_sold_68 rfl rfl ?_
  refine gfR_m_13 G d_m_sold_69 ?_
  refine vj_mr (fun hM1 => ?_)
  refine vj_icmp_ge G (tgt := 116) d_m_sold_72 (by decide) hx3 (mr_o hM1 lkR_0 flR_0_1) (fun c2 => ?_) (fun c2 => ?_)
  · rw [if_pos c2] at hF
    refine vj_iload_n G (p9 := 1) d_m_sold_116 rfl rfl ?_
    cases hF
    exact vj_iret G0 hx2 d_m_sold_117
  · rw [if_neg c2] at hF
    refine vj_iload_n G (p9 := 1) d_m_sold_75 rfl rfl ?_
    refine vj_aload_n G (p9 := 0) d_m_sold_76 rfl rfl ?_
    refine gfR_m_25 G d_m_sold_77 ?_
    refine vj_iload_n G (p9 := 2) d_m_sold_80 rfl rfl ?_
    obtain ⟨c3, hF⟩ := ck_some hF
    refine vj_iald G (x := x3) lkR_1 (by decide) c3 d_m_sold_81 ?_
    refine vj_mr (fun hM4 => ?_)
    refine vj_iconst G (v := 1) d_m_sold_82 rfl ?_
    refine vj_icmp_ne G (tgt := 107) d_m_sold_83 (by decide) (mr_a hM4 lkR_1) ic_1 (fun c5 => ?_) (fun c5 => ?_)
    · rw [if_pos c5] at hF
      refine vj_sub [0, 2] rfl ?_
      exact wk_m_sold_107 G0 n k67 hk67 x3 x2 hx3 hx2 _ hF
    · rw [if_neg c5] at hF
      refine vj_aload_n G (p9 := 0) d_m_sold_86 rfl rfl ?_
      refine gfR_m_151 G d_m_sold_87 ?_
      refine vj_iload_n G (p9 := 2) d_m_sold_90 rfl rfl ?_
      obtain ⟨c6, hF⟩ := ck_some hF
      refine vj_iald G (x := x3) lkR_29 (by decide) c6 d_m_sold_91 ?_
      refine vj_mr (fun hM7 => ?_)
      refine vj_aload_n G (p9 := 0) d_m_sold_92 rfl rfl ?_
      refine gfR_m_191 G d_m_sold_93 ?_
      refine vj_iload_n G (p9 := 2) d_m_sold_96 rfl rfl ?_
      obtain ⟨c8, hF⟩ := ck_some hF
      refine vj_iald G (x := x3) lkR_39 (by decide) c8 d_m_sold_97 ?_
      refine vj_icmp_eq G (tgt := 107) d_m_sold_98 (by decide) (mr_a hM7 lkR_29) (mr_a hM7 lkR_39) (fun c9 => ?_) (fun c9 => ?_)
      · rw [if_pos c9] at hF
        refine vj_sub [0, 2] rfl ?_
        exact wk_m_sold_107 G0 n k67 hk67 x3 x2 hx3 hx2 _ hF
      · rw [if_neg c9] at hF
        refine vj_iconst G (v := 1) d_m_sold_101 rfl ?_
        refine vj_iload_n G (p9 := 2) d_m_sold_102 rfl rfl ?_
        refine vj_ishl G d_m_sold_103 ?_
        refine vj_goto G (tgt := 108) d_m_sold_104 (by decide) ?_
        refine vj_sub [0, 2] rfl ?_
        exact wk_m_sold_108 G0 n k67 hk67 x3 x2 (ish 1 x3) hx3 hx2 (ir_sh _ _) _ hF
set_option maxHeartbeats 4000000 in
set_option maxRecDepth 100000 in
theorem wl_m_sold_67 {w : Wd} {X : Cx} {r : Int} {M9 : Mm} (G0 : Gx LR w X "WhoRulesModel" b_m_sold 4 11 249 (some .int)) (n : Nat) : ∀ (f : Nat) (x2 x3 : Int) (hx2 : inR x2) (hx3 : inR x3) (M : Mm), lp_m_sold_67 n f x2 x3 M = some (r, M9) → VJ LR w X 4 1 r M9 M [(0, .ref (wa w 0)), (2, .int (i32 x2)), (3, .int (i32 x3))] [] 67 := by
  intro f
  induction f with
  | zero => intro x2 x3 hx2 hx3 M hF; cases hF
  | succ f ih => intro x2 x3 hx2 hx3 M hF; exact wk_m_sold_67 G0 n (lp_m_sold_67 n f) ih x2 x3 hx2 hx3 M hF
set_option maxHeartbeats 4000000 in
set_option maxRecDepth 100000 in
theorem wk_m_sold_20 {w : Wd} {X : Cx} {r : Int} {M9 : Mm} (G0 : Gx LR w X "WhoRulesModel" b_m_sold 4 11 249 (some .int)) (n : Nat) (k20 : Int → Int → Mm → Rr) (hk20 : ∀ (x1 x2 : Int) (hx1 : inR x1) (hx2 : inR x2) (M : Mm), k20 x1 x2 M = some (r, M9) → VJ LR w X 4 1 r M9 M [(0, .ref (wa w 0)), (1, .int (i32 x1)), (2, .int (i32 x2))] [] 20) (x1 x2 : Int) (hx1 : inR x1) (hx2 : inR x2) (M : Mm) (hF : f_m_sold_20 n k20 x1 x2 M = some (r, M9)) : VJ LR w X 4 1 r M9 M [(0, .ref (wa w 0)), (1, .int (i32 x1)), (2, .int (i32 x2))] [] 20 := by
  have G := G0.1
  unfold f_m_sold_20 at hF
  refine vj_iload_n G (p9 := 2) d_m_sold_20 rfl rfl ?_
  refine vj_bipush G (v := 16) d_m_sold_21 rfl ?_
  refine vj_icmp_ge G (tgt := 44) d_m_sold_23 (by decide) hx2 ic_16 (fun c1 => ?_) (fun c1 => ?_)
  · rw [if_pos c1] at hF
    refine vj_aload_n G (p9 := 0) d_m_sold_44 rfl rfl ?_
    refine gfR_m_130 G d_m_sold_45 ?_
    refine vj_iload_n G (p9 := 1) d_m_sold_48 rfl rfl ?_
    refine vj_iconst G (v := (-1)) d_m_sold_49 rfl ?_
    obtain ⟨c2, hF⟩ := ck_some hF
    refine vj_iast G (x := x1) lkR_22 (by decide) (by decide) (by decide) c2 ic_m1 d_m_sold_50 ?_
    refine vj_aload_n G (p9 := 0) d_m_sold_51 rfl rfl ?_
    refine vj_aload_n G (p9 := 0) d_m_sold_52 rfl rfl ?_
    refine gfR_m_7 G d_m_sold_53 ?_
    refine vj_mr (fun hM3 => ?_)
    obtain ⟨r4, M4, e4, hF⟩ := bnd_some hF
    refine vj_callV0 G (ct_m_findVotes (gx_ij G) n ((mset M 22 x1.toNat (-1)) 0 0) (mr_o hM3 lkR_0 flR_0_0) e4) lkR_0 clR_0 rfl q_1680 cq_m_findVotes rfl (by decide) (by decide) (Nat.le_of_ble_eq_true rfl) d_m_sold_56 rfl (fun hr4 => ?_)
    refine vj_aload_n G (p9 := 0) d_m_sold_59 rfl rfl ?_
    obtain ⟨r5, M5, e5, hF⟩ := bnd_some hF
    refine vj_callV0 G (ct_m_findLeast (gx_ij G) n   e5) lkR_0 clR_0 rfl q_1700 cq_m_findLeast rfl (by decide) (by decide) (Nat.le_of_ble_eq_true rfl) d_m_sold_60 rfl (fun hr5 => ?_)
    refine vj_iconst G (v := 0) d_m_sold_63 rfl ?_
    refine vj_istore_n G (lv2 := [(2, .int (i32 0)), (0, .ref (wa w 0)), (1, .int (i32 x1))]) d_m_sold_64 rfl (by decide) rfl ?_
    refine vj_iconst G (v := 0) d_m_sold_65 rfl ?_
    refine vj_istore_n G (lv2 := [(3, .int (i32 0)), (2, .int (i32 0)), (0, .ref (wa w 0)), (1, .int (i32 x1))]) d_m_sold_66 rfl (by decide) rfl ?_
    refine vj_sub [2, 1, 0] rfl ?_
    exact wl_m_sold_67 G0 n  n 0 0 ic_0 ic_0 _ hF
  · rw [if_neg c1] at hF
    refine vj_aload_n G (p9 := 0) d_m_sold_26 rfl rfl ?_
    refine gfR_m_191 G d_m_sold_27 ?_
    refine vj_iload_n G (p9 := 2) d_m_sold_30 rfl rfl ?_
    refine vj_aload_n G (p9 := 0) d_m_sold_31 rfl rfl ?_
    refine gfR_m_151 G d_m_sold_32 ?_
    refine vj_iload_n G (p9 := 2) d_m_sold_35 rfl rfl ?_
    obtain ⟨c6, hF⟩ := ck_some hF
    refine vj_iald G (x := x2) lkR_29 (by decide) c6 d_m_sold_36 ?_
    refine vj_mr (fun hM7 => ?_)
    obtain ⟨c8, hF⟩ := ck_some hF
    refine vj_iast G (x := x2) lkR_39 (by decide) (by decide) (by decide) c8 (mr_a hM7 lkR_29) d_m_sold_37 ?_
    refine vj_iinc G (p9 := 2) (n := 1) (lv2 := [(2, .int (i32 (w32 (x2 + 1)))), (0, .ref (wa w 0)), (1, .int (i32 x1))]) d_m_sold_38 rfl (by decide) rfl ?_
    refine vj_goto G (tgt := 20) d_m_sold_41 (by decide) ?_
    refine vj_sub [1, 2, 0] rfl ?_
    exact hk20 x1 (w32 (x2 + 1)) hx1 (ir_w _) _ hF
set_option maxHeartbeats 4000000 in
set_option maxRecDepth 100000 in
theorem wl_m_sold_20 {w : Wd} {X : Cx} {r : Int} {M9 : Mm} (G0 : Gx LR w X "WhoRulesModel" b_m_sold 4 11 249 (some .int)) (n : Nat) : ∀ (f : Nat) (x1 x2 : Int) (hx1 : inR x1) (hx2 : inR x2) (M : Mm), lp_m_sold_20 n f x1 x2 M = some (r, M9) → VJ LR w X 4 1 r M9 M [(0, .ref (wa w 0)), (1, .int (i32 x1)), (2, .int (i32 x2))] [] 20 := by
  intro f
  induction f with
  | zero => intro x1 x2 hx1 hx2 M hF; cases hF
  | succ f ih => intro x1 x2 hx1 hx2 M hF; exact wk_m_sold_20 G0 n (lp_m_sold_20 n f) ih x1 x2 hx1 hx2 M hF
set_option maxHeartbeats 4000000 in
set_option maxRecDepth 100000 in
theorem ct_m_sold {w : Wd} (hij : ij LR w) (n : Nat) (x1 : Int) (hx1 : inR x1) {M : Mm} {r : Int} {M9 : Mm} (hF : f_m_sold n x1 M = some (r, M9)) : Ct LR w y_m_sold b_m_sold 4 (some .int) 11 249 1 [.ref (wa w 0), .int (i32 x1)] M r M9 := by
  refine Ct.of hij KstR (by decide +kernel) (Nat.le_of_ble_eq_true rfl) (fun X G0 => ?_)
  have G := G0.1
  show VJ LR w X 4 1 r M9 M [(0, .ref (wa w 0)), (1, .int (i32 x1))] [] 0
  unfold f_m_sold at hF
  refine vj_aload_n G (p9 := 0) d_m_sold_0 rfl rfl ?_
  refine vj_iload_n G (p9 := 1) d_m_sold_1 rfl rfl ?_
  obtain ⟨r1, M1, e1, hF⟩ := bnd_some hF
  refine vj_callV3 G (ct_m_isShare (gx_ij G) n x1 hx1 e1) lkR_0 clR_0 rfl q_1567 cq_m_isShare rfl (by decide) (by decide) (Nat.le_of_ble_eq_true rfl) d_m_sold_2 rfl (fun hr1 => ?_)
  refine vj_if_ne G (tgt := 10) d_m_sold_5 (by decide) (ir_b hr1) (fun c2 => ?_) (fun c2 => ?_)
  · rw [if_pos c2] at hF
    refine vj_aload_n G (p9 := 0) d_m_sold_10 rfl rfl ?_
    refine vj_aload_n G (p9 := 0) d_m_sold_11 rfl rfl ?_
    refine gfR_m_7 G d_m_sold_12 ?_
    refine vj_mr (fun hM3 => ?_)
    obtain ⟨r4, M4, e4, hF⟩ := bnd_some hF
    refine vj_callV0 G (ct_m_least (gx_ij G) n (M1 0 0) (mr_o hM3 lkR_0 flR_0_0) e4) lkR_0 clR_0 rfl q_1696 cq_m_least rfl (by decide) (by decide) (Nat.le_of_ble_eq_true rfl) d_m_sold_15 rfl (fun hr4 => ?_)
    refine vj_iconst G (v := 0) d_m_sold_18 rfl ?_
    refine vj_istore_n G (lv2 := [(2, .int (i32 0)), (0, .ref (wa w 0)), (1, .int (i32 x1))]) d_m_sold_19 rfl (by decide) rfl ?_
    refine vj_sub [1, 2, 0] rfl ?_
    exact wl_m_sold_20 G0 n  n x1 0 hx1 ic_0 _ hF
  · rw [if_neg c2] at hF
    refine vj_iconst G (v := (-1)) d_m_sold_8 rfl ?_
    cases hF
    exact vj_iret G0 ic_m1 d_m_sold_9
set_option maxHeartbeats 4000000 in
set_option maxRecDepth 100000 in
theorem wk_m_free_206 {w : Wd} {X : Cx} {r : Int} {M9 : Mm} (G0 : Gx LR w X "WhoRulesModel" b_m_free 6 11 249 (some .long)) (n : Nat) (k98 : Int → Int → Int → Mm → Rr) (hk98 : ∀ (x1 x3 x4 : Int) (hx1 : inR x1) (hx3 : inR x3) (hx4 : inR x4) (M : Mm), k98 x1 x3 x4 M = some (r, M9) → VJ LR w X 6 2 r M9 M [(0, .ref (wa w 0)), (1, .int (i32 x1)), (3, .int (i32 x3)), (4, .int (i32 x4))] [] 98) (x1 x3 x4 : Int) (hx1 : inR x1) (hx3 : inR x3) (hx4 : inR x4) (M : Mm) (hF : f_m_free_206 n k98 x1 x3 x4 M = some (r, M9)) : VJ LR w X 6 2 r M9 M [(0, .ref (wa w 0)), (1, .int (i32 x1)), (3, .int (i32 x3)), (4, .int (i32 x4))] [] 206 := by
  have G := G0.1
  unfold f_m_free_206 at hF
  refine vj_iinc G (p9 := 3) (n := 1) (lv2 := [(4, .int (i32 (w32 (x4 + 1)))), (0, .ref (wa w 0)), (1, .int (i32 x1)), (3, .int (i32 x3))]) d_m_free_206 rfl (by decide) rfl ?_
  refine vj_goto G (tgt := 98) d_m_free_209 (by decide) ?_
  refine vj_sub [1, 2, 3, 0] rfl ?_
  exact hk98 x1 x3 (w32 (x4 + 1)) hx1 hx3 (ir_w _) _ hF
set_option maxHeartbeats 4000000 in
set_option maxRecDepth 100000 in
theorem wk_m_free_176 {w : Wd} {X : Cx} {r : Int} {M9 : Mm} (G0 : Gx LR w X "WhoRulesModel" b_m_free 6 11 249 (some .long)) (n : Nat) (k98 : Int → Int → Int → Mm → Rr) (hk98 : ∀ (x1 x3 x4 : Int) (hx1 : inR x1) (hx3 : inR x3) (hx4 : inR x4) (M : Mm), k98 x1 x3 x4 M = some (r, M9) → VJ LR w X 6 2 r M9 M [(0, .ref (wa w 0)), (1, .int (i32 x1)), (3, .int (i32 x3)), (4, .int (i32 x4))] [] 98) (k143 : Int → Int → Int → Int → Mm → Rr) (hk143 : ∀ (x1 x3 x4 x5 : Int) (hx1 : inR x1) (hx3 : inR x3) (hx4 : inR x4) (hx5 : inR x5) (M : Mm), k143 x1 x3 x4 x5 M = some (r, M9) → VJ LR w X 6 2 r M9 M [(0, .ref (wa w 0)), (1, .int (i32 x1)), (3, .int (i32 x3)), (4, .int (i32 x4)), (5, .int (i32 x5))] [] 143) (x1 x3 x4 x5 : Int) (hx1 : inR x1) (hx3 : inR x3) (hx4 : inR x4) (hx5 : inR x5) (M : Mm) (hF : f_m_free_176 n k98 k143 x1 x3 x4 x5 M = some (r, M9)) : VJ LR w X 6 2 r M9 M [(0, .ref (wa w 0)), (1, .int (i32 x1)), (3, .int (i32 x3)), (4, .int (i32 x4)), (5, .int (i32 x5))] [] 176 := by
  have G := G0.1
  unfold f_m_free_176 at hF
  refine vj_iinc G (p9 := 4) (n := 1) (lv2 := [(5, .int (i32 (w32 (x5 + 1)))), (0, .ref (wa w 0)), (1, .int (i32 x1)), (3, .int (i32 x3)), (4, .int (i32 x4))]) d_m_free_176 rfl (by decide) rfl ?_
  refine vj_goto G (tgt := 143) d_m_free_179 (by decide) ?_
  refine vj_sub [1, 2, 3, 4, 0] rfl ?_
  exact hk143 x1 x3 x4 (w32 (x5 + 1)) hx1 hx3 hx4 (ir_w _) _ hF
set_option maxHeartbeats 4000000 in
set_option maxRecDepth 100000 in
theorem wk_m_free_143 {w : Wd} {X : Cx} {r : Int} {M9 : Mm} (G0 : Gx LR w X "WhoRulesModel" b_m_free 6 11 249 (some .long)) (n : Nat) (k98 : Int → Int → Int → Mm → Rr) (hk98 : ∀ (x1 x3 x4 : Int) (hx1 : inR x1) (hx3 : inR x3) (hx4 : inR x4) (M : Mm), k98 x1 x3 x4 M = some (r, M9) → VJ LR w X 6 2 r M9 M [(0, .ref (wa w 0)), (1, .int (i32 x1)), (3, .int (i32 x3)), (4, .int (i32 x4))] [] 98) (k143 : Int → Int → Int → Int → Mm → Rr) (hk143 : ∀ (x1 x3 x4 x5 : Int) (hx1 : inR x1) (hx3 : inR x3) (hx4 : inR x4) (hx5 : inR x5) (M : Mm), k143 x1 x3 x4 x5 M = some (r, M9) → VJ LR w X 6 2 r M9 M [(0, .ref (wa w 0)), (1, .int (i32 x1)), (3, .int (i32 x3)), (4, .int (i32 x4)), (5, .int (i32 x5))] [] 143) (x1 x3 x4 x5 : Int) (hx1 : inR x1) (hx3 : inR x3) (hx4 : inR x4) (hx5 : inR x5) (M : Mm) (hF : f_m_free_143 n k98 k143 x1 x3 x4 x5 M = some (r, M9)) : VJ LR w X 6 2 r M9 M [(0, .ref (wa w 0)), (1, .int (i32 x1)), (3, .int (i32 x3)), (4, .int (i32 x4)), (5, .int (i32 x5))] [] 143 := by
  have G := G0.1
  unfold f_m_free_143 at hF
  refine vj_iload G (p9 := 4) d_m_free_143 rfl ?_
  refine vj_aload_n G (p9 := 0) d_m_free_145 rfl rfl ?_
  refine gfR_m_194 G d_m_free_146 ?_
  refine vj_mr (fun hM1 => ?_)
  refine vj_icmp_ge G (tgt := 182) d_m_free_149 (by decide) hx5 (mr_o hM1 lkR_0 flR_0_60) (fun c2 => ?_) (fun c2 => ?_)
  · rw [if_pos c2] at hF
    refine vj_aload_n G (p9 := 0) d_m_free_182 rfl rfl ?_
    refine vj_aload_n G (p9 := 0) d_m_free_183 rfl rfl ?_
    refine gfR_m_7 G d_m_free_184 ?_
    refine vj_mr (fun hM3 => ?_)
    obtain ⟨r4, M4, e4, hF⟩ := bnd_some hF
    refine vj_callV0 G (ct_m_findVotes (gx_ij G) n (M 0 0) (mr_o hM3 lkR_0 flR_0_0) e4) lkR_0 clR_0 rfl q_1680 cq_m_findVotes rfl (by decide) (by decide) (Nat.le_of_ble_eq_true rfl) d_m_free_187 rfl (fun hr4 => ?_)
    refine vj_aload_n G (p9 := 0) d_m_free_190 rfl rfl ?_
    obtain ⟨r5, M5, e5, hF⟩ := bnd_some hF
    refine vj_callV0 G (ct_m_findLeast (gx_ij G) n   e5) lkR_0 clR_0 rfl q_1700 cq_m_findLeast rfl (by decide) (by decide) (Nat.le_of_ble_eq_true rfl) d_m_free_191 rfl (fun hr5 => ?_)
    refine vj_aload_n G (p9 := 0) d_m_free_194 rfl rfl ?_
    refine gfR_m_151 G d_m_free_195 ?_
    refine vj_iload_n G (p9 := 1) d_m_free_198 rfl rfl ?_
    obtain ⟨c6, hF⟩ := ck_some hF
    refine vj_iald G (x := x1) lkR_29 (by decide) c6 d_m_free_199 ?_
    refine vj_mr (fun hM7 => ?_)
    refine vj_if_ge G (tgt := 206) d_m_free_200 (by decide) (mr_a hM7 lkR_29) (fun c8 => ?_) (fun c8 => ?_)
    · rw [if_pos c8] at hF
      refine vj_sub [0, 1, 2, 3] rfl ?_
      exact wk_m_free_206 G0 n k98 hk98 x1 x3 x4 hx1 hx3 hx4 _ hF
    · rw [if_neg c8] at hF
      refine vj_iload G (p9 := 3) d_m_free_203 rfl ?_
      refine vj_istore_n G (lv2 := [(3, .int (i32 x4)), (0, .ref (wa w 0)), (1, .int (i32 x1)), (4, .int (i32 x4)), (5, .int (i32 x5))]) d_m_free_205 rfl (by decide) rfl ?_
      refine vj_sub [1, 2, 0, 3] rfl ?_
      exact wk_m_free_206 G0 n k98 hk98 x1 x4 x4 hx1 hx4 hx4 _ hF
  · rw [if_neg c2] at hF
    refine vj_iload G (p9 := 3) d_m_free_152 rfl ?_
    refine vj_iload G (p9 := 4) d_m_free_154 rfl ?_
    refine vj_ishr G d_m_free_156 ?_
    refine vj_iconst G (v := 1) d_m_free_157 rfl ?_
    refine vj_iand G d_m_free_158 ?_
    refine vj_iconst G (v := 1) d_m_free_159 rfl ?_
    refine vj_icmp_ne G (tgt := 176) d_m_free_160 (by decide) (ir_an _ _) ic_1 (fun c9 => ?_) (fun c9 => ?_)
    · rw [if_pos c9] at hF
      exact wk_m_free_176 G0 n k98 hk98 k143 hk143 x1 x3 x4 x5 hx1 hx3 hx4 hx5 _ hF
    · rw [if_neg c9] at hF
      refine vj_aload_n G (p9 := 0) d_m_free_163 rfl rfl ?_
      refine gfR_m_130 G d_m_free_164 ?_
      refine vj_aload_n G (p9 := 0) d_m_free_167 rfl rfl ?_
      refine gfR_m_188 G d_m_free_168 ?_
      refine vj_iload G (p9 := 4) d_m_free_171 rfl ?_
      obtain ⟨c10, hF⟩ := ck_some hF
      refine vj_iald G (x := x5) lkR_38 (by decide) c10 d_m_free_173 ?_
      refine vj_mr (fun hM11 => ?_)
      refine vj_iconst G (v := (-1)) d_m_free_174 rfl ?_
      obtain ⟨c12, hF⟩ := ck_some hF
      refine vj_iast G (x := (M 38 x5.toNat)) lkR_22 (by decide) (by decide) (by decide) c12 ic_m1 d_m_free_175 ?_
      exact wk_m_free_176 G0 n k98 hk98 k143 hk143 x1 x3 x4 x5 hx1 hx3 hx4 hx5 _ hF
set_option maxHeartbeats 4000000 in
set_option maxRecDepth 100000 in
theorem wl_m_free_143 {w : Wd} {X : Cx} {r : Int} {M9 : Mm} (G0 : Gx LR w X "WhoRulesModel" b_m_free 6 11 249 (some .long)) (n : Nat) (k98 : Int → Int → Int → Mm → Rr) (hk98 : ∀ (x1 x3 x4 : Int) (hx1 : inR x1) (hx3 : inR x3) (hx4 : inR x4) (M : Mm), k98 x1 x3 x4 M = some (r, M9) → VJ LR w X 6 2 r M9 M [(0, .ref (wa w 0)), (1, .int (i32 x1)), (3, .int (i32 x3)), (4, .int (i32 x4))] [] 98) : ∀ (f : Nat) (x1 x3 x4 x5 : Int) (hx1 : inR x1) (hx3 : inR x3) (hx4 : inR x4) (hx5 : inR x5) (M : Mm), lp_m_free_143 n k98 f x1 x3 x4 x5 M = some (r, M9) → VJ LR w X 6 2 r M9 M [(0, .ref (wa w 0)), (1, .int (i32 x1)), (3, .int (i32 x3)), (4, .int (i32 x4)), (5, .int (i32 x5))] [] 143 := by
  intro f
  induction f with
  | zero => intro x1 x3 x4 x5 hx1 hx3 hx4 hx5 M hF; cases hF
  | succ f ih => intro x1 x3 x4 x5 hx1 hx3 hx4 hx5 M hF; exact wk_m_free_143 G0 n k98 hk98 (lp_m_free_143 n k98 f) ih x1 x3 x4 x5 hx1 hx3 hx4 hx5 M hF
set_option maxHeartbeats 4000000 in
set_option maxRecDepth 100000 in
theorem wk_m_free_132 {w : Wd} {X : Cx} {r : Int} {M9 : Mm} (G0 : Gx LR w X "WhoRulesModel" b_m_free 6 11 249 (some .long)) (n : Nat) (k98 : Int → Int → Int → Mm → Rr) (hk98 : ∀ (x1 x3 x4 : Int) (hx1 : inR x1) (hx3 : inR x3) (hx4 : inR x4) (M : Mm), k98 x1 x3 x4 M = some (r, M9) → VJ LR w X 6 2 r M9 M [(0, .ref (wa w 0)), (1, .int (i32 x1)), (3, .int (i32 x3)), (4, .int (i32 x4))] [] 98) (x1 x3 x4 : Int) (hx1 : inR x1) (hx3 : inR x3) (hx4 : inR x4) (M : Mm) (hF : f_m_free_132 n k98 x1 x3 x4 M = some (r, M9)) : VJ LR w X 6 2 r M9 M [(0, .ref (wa w 0)), (1, .int (i32 x1)), (3, .int (i32 x3)), (4, .int (i32 x4))] [] 132 := by
  have G := G0.1
  unfold f_m_free_132 at hF
  refine vj_aload_n G (p9 := 0) d_m_free_132 rfl rfl ?_
  refine vj_aload_n G (p9 := 0) d_m_free_133 rfl rfl ?_
  refine gfR_m_7 G d_m_free_134 ?_
  refine vj_mr (fun hM1 => ?_)
  obtain ⟨r2, M2, e2, hF⟩ := bnd_some hF
  refine vj_callV0 G (ct_m_layOut (gx_ij G) n (M 0 0) (mr_o hM1 lkR_0 flR_0_0) e2) lkR_0 clR_0 rfl q_1676 cq_m_layOut rfl (by decide) (by decide) (Nat.le_of_ble_eq_true rfl) d_m_free_137 rfl (fun hr2 => ?_)
  refine vj_iconst G (v := 0) d_m_free_140 rfl ?_
  refine vj_istore G (lv2 := [(5, .int (i32 0)), (0, .ref (wa w 0)), (1, .int (i32 x1)), (3, .int (i32 x3)), (4, .int (i32 x4))]) d_m_free_141 (by decide) rfl ?_
  refine vj_sub [1, 2, 3, 4, 0] rfl ?_
  exact wl_m_free_143 G0 n k98 hk98 n x1 x3 x4 0 hx1 hx3 hx4 ic_0 _ hF
set_option maxHeartbeats 4000000 in
set_option maxRecDepth 100000 in
theorem wk_m_free_98 {w : Wd} {X : Cx} {r : Int} {M9 : Mm} (G0 : Gx LR w X "WhoRulesModel" b_m_free 6 11 249 (some .long)) (n : Nat) (k98 : Int → Int → Int → Mm → Rr) (hk98 : ∀ (x1 x3 x4 : Int) (hx1 : inR x1) (hx3 : inR x3) (hx4 : inR x4) (M : Mm), k98 x1 x3 x4 M = some (r, M9) → VJ LR w X 6 2 r M9 M [(0, .ref (wa w 0)), (1, .int (i32 x1)), (3, .int (i32 x3)), (4, .int (i32 x4))] [] 98) (x1 x3 x4 : Int) (hx1 : inR x1) (hx3 : inR x3) (hx4 : inR x4) (M : Mm) (hF : f_m_free_98 n k98 x1 x3 x4 M = some (r, M9)) : VJ LR w X 6 2 r M9 M [(0, .ref (wa w 0)), (1, .int (i32 x1)), (3, .int (i32 x3)), (4, .int (i32 x4))] [] 98 := by
  have G := G0.1
  unfold f_m_free_98 at hF
  refine vj_iload G (p9 := 3) d_m_free_98 rfl ?_
  refine vj_iconst G (v := 1) d_m_free_100 rfl ?_
  refine vj_aload_n G (p9 := 0) d_m_free_101 rfl rfl ?_
  refine gfR_m_194 G d_m_free_102 ?_
  refine vj_mr (fun hM1 => ?_)
  refine vj_ishl G d_m_free_105 ?_
  refine vj_icmp_ge G (tgt := 212) d_m_free_106 (by decide) hx4 (ir_sh _ _) (fun c2 => ?_) (fun c2 => ?_)
  · rw [if_pos c2] at hF
    refine vj_iload_n G (p9 := 2) d_m_free_212 rfl rfl ?_
    refine vj_if_ge G (tgt := 222) d_m_free_213 (by decide) hx3 (fun c3 => ?_) (fun c3 => ?_)
    · rw [if_pos c3] at hF
      refine vj_aload_n G (p9 := 0) d_m_free_222 rfl rfl ?_
      refine vj_iload_n G (p9 := 2) d_m_free_223 rfl rfl ?_
      obtain ⟨r4, M4, e4, hF⟩ := bnd_some hF
      refine vj_callV2 G (ct_m_bitsOf (gx_ij G) n x3 hx3 e4) lkR_0 clR_0 rfl q_1806 cq_m_bitsOf rfl (by decide) (by decide) (Nat.le_of_ble_eq_true rfl) d_m_free_224 rfl (fun hr4 => ?_)
      cases hF
      exact vj_lret G0 hr4 d_m_free_227
    · rw [if_neg c3] at hF
      refine vj_ldc2 G (v := (-5)) d_m_free_216 q_1810 rfl ?_
      refine vj_goto G (tgt := 227) d_m_free_219 (by decide) ?_
      cases hF
      exact vj_lret G0 ⟨by decide, by decide⟩ d_m_free_227
  · rw [if_neg c2] at hF
    refine vj_iload_n G (p9 := 2) d_m_free_109 rfl rfl ?_
    refine vj_if_lt G (tgt := 132) d_m_free_110 (by decide) hx3 (fun c5 => ?_) (fun c5 => ?_)
    · rw [if_pos c5] at hF
      exact wk_m_free_132 G0 n k98 hk98 x1 x3 x4 hx1 hx3 hx4 _ hF
    · rw [if_neg c5] at hF
      refine vj_aload_n G (p9 := 0) d_m_free_113 rfl rfl ?_
      refine vj_iload G (p9 := 3) d_m_free_114 rfl ?_
      refine vj_i2l G d_m_free_116 hx4 ?_
      obtain ⟨r6, M6, e6, hF⟩ := bnd_some hF
      refine vj_callV1 G (ct_m_ones (gx_ij G) n x4 (lr_i hx4) e6) lkR_0 clR_0 rfl q_1802 cq_m_ones rfl (by decide) (by decide) (Nat.le_of_ble_eq_true rfl) d_m_free_117 rfl (fun hr6 => ?_)
      refine vj_aload_n G (p9 := 0) d_m_free_120 rfl rfl ?_
      refine vj_iload_n G (p9 := 2) d_m_free_121 rfl rfl ?_
      refine vj_i2l G d_m_free_122 hx3 ?_
      obtain ⟨r7, M7, e7, hF⟩ := bnd_some hF
      refine vj_callV1 G (ct_m_ones (gx_ij G) n x3 (lr_i hx3) e7) lkR_0 clR_0 rfl q_1802 cq_m_ones rfl (by decide) (by decide) (Nat.le_of_ble_eq_true rfl) d_m_free_123 rfl (fun hr7 => ?_)
      refine vj_icmp_lt G (tgt := 132) d_m_free_126 (by decide) hr6 hr7 (fun c8 => ?_) (fun c8 => ?_)
      · rw [if_pos c8] at hF
        exact wk_m_free_132 G0 n k98 hk98 x1 x3 x4 hx1 hx3 hx4 _ hF
      · rw [if_neg c8] at hF
        refine vj_goto G (tgt := 206) d_m_free_129 (by decide) ?_
        exact wk_m_free_206 G0 n k98 hk98 x1 x3 x4 hx1 hx3 hx4 _ hF
set_option maxHeartbeats 4000000 in
set_option maxRecDepth 100000 in
theorem wl_m_free_98 {w : Wd} {X : Cx} {r : Int} {M9 : Mm} (G0 : Gx LR w X "WhoRulesModel" b_m_free 6 11 249 (some .long)) (n : Nat) : ∀ (f : Nat) (x1 x3 x4 : Int) (hx1 : inR x1) (hx3 : inR x3) (hx4 : inR x4) (M : Mm), lp_m_free_98 n f x1 x3 x4 M = some (r, M9) → VJ LR w X 6 2 r M9 M [(0, .ref (wa w 0)), (1, .int (i32 x1)), (3, .int (i32 x3)), (4, .int (i32 x4))] [] 98 := by
  intro f
  induction f with
  | zero => intro x1 x3 x4 hx1 hx3 hx4 M hF; cases hF
  | succ f ih => intro x1 x3 x4 hx1 hx3 hx4 M hF; exact wk_m_free_98 G0 n (lp_m_free_98 n f) ih x1 x3 x4 hx1 hx3 hx4 M hF
set_option maxHeartbeats 4000000 in
set_option maxRecDepth 100000 in
theorem wk_m_free_87 {w : Wd} {X : Cx} {r : Int} {M9 : Mm} (G0 : Gx LR w X "WhoRulesModel" b_m_free 6 11 249 (some .long)) (n : Nat) (k51 : Int → Int → Int → Mm → Rr) (hk51 : ∀ (x1 x2 x3 : Int) (hx1 : inR x1) (hx2 : inR x2) (hx3 : inR x3) (M : Mm), k51 x1 x2 x3 M = some (r, M9) → VJ LR w X 6 2 r M9 M [(0, .ref (wa w 0)), (1, .int (i32 x1)), (2, .int (i32 x2)), (3, .int (i32 x3))] [] 51) (x1 x2 x3 : Int) (hx1 : inR x1) (hx2 : inR x2) (hx3 : inR x3) (M : Mm) (hF : f_m_free_87 n k51 x1 x2 x3 M = some (r, M9)) : VJ LR w X 6 2 r M9 M [(0, .ref (wa w 0)), (1, .int (i32 x1)), (2, .int (i32 x2)), (3, .int (i32 x3))] [] 87 := by
  have G := G0.1
  unfold f_m_free_87 at hF
  refine vj_iinc G (p9 := 3) (n := 1) (lv2 := [(3, .int (i32 (w32 (x3 + 1)))), (0, .ref (wa w 0)), (1, .int (i32 x1)), (2, .int (i32 x2))]) d_m_free_87 rfl (by decide) rfl ?_
  refine vj_goto G (tgt := 51) d_m_free_90 (by decide) ?_
  refine vj_sub [1, 2, 3, 0] rfl ?_
  exact hk51 x1 x2 (w32 (x3 + 1)) hx1 hx2 (ir_w _) _ hF
set_option maxHeartbeats 4000000 in
set_option maxRecDepth 100000 in
theorem wk_m_free_51 {w : Wd} {X : Cx} {r : Int} {M9 : Mm} (G0 : Gx LR w X "WhoRulesModel" b_m_free 6 11 249 (some .long)) (n : Nat) (k51 : Int → Int → Int → Mm → Rr) (hk51 : ∀ (x1 x2 x3 : Int) (hx1 : inR x1) (hx2 : inR x2) (hx3 : inR x3) (M : Mm), k51 x1 x2 x3 M = some (r, M9) → VJ LR w X 6 2 r M9 M [(0, .ref (wa w 0)), (1, .int (i32 x1)), (2, .int (i32 x2)), (3, .int (i32 x3))] [] 51) (x1 x2 x3 : Int) (hx1 : inR x1) (hx2 : inR x2) (hx3 : inR x3) (M : Mm) (hF : f_m_free_51 n k51 x1 x2 x3 M = some (r, M9)) : VJ LR w X 6 2 r M9 M [(0, .ref (wa w 0)), (1, .int (i32 x1)), (2, .int (i32 x2)), (3, .int (i32 x3))] [] 51 := by
  have G := G0.1
  unfold f_m_free_51 at hF
  refine vj_iload_n G (p9 := 3) d_m_free_51 rfl rfl ?_
  refine vj_aload_n G (p9 := 0) d_m_free_52 rfl rfl ?_
  refine gfR_m_19 G d_m_free_53 ?_
  refine vj_mr (fun hM1 => ?_)
  refine vj_icmp_ge G (tgt := 93) d_m_free_56 (by decide) hx3 (mr_o hM1 lkR_0 flR_0_3) (fun c2 => ?_) (fun c2 => ?_)
  · rw [if_pos c2] at hF
    refine vj_iconst G (v := (-1)) d_m_free_93 rfl ?_
    refine vj_istore_n G (lv2 := [(3, .int (i32 (-1))), (0, .ref (wa w 0)), (1, .int (i32 x1)), (2, .int (i32 x2))]) d_m_free_94 rfl (by decide) rfl ?_
    refine vj_iconst G (v := 1) d_m_free_95 rfl ?_
    refine vj_istore G (lv2 := [(4, .int (i32 1)), (3, .int (i32 (-1))), (0, .ref (wa w 0)), (1, .int (i32 x1)), (2, .int (i32 x2))]) d_m_free_96 (by decide) rfl ?_
    refine vj_sub [2, 3, 1, 0] rfl ?_
    exact wl_m_free_98 G0 n  n x1 (-1) 1 hx1 ic_m1 ic_1 _ hF
  · rw [if_neg c2] at hF
    refine vj_aload_n G (p9 := 0) d_m_free_59 rfl rfl ?_
    refine gfR_m_130 G d_m_free_60 ?_
    refine vj_iload_n G (p9 := 3) d_m_free_63 rfl rfl ?_
    obtain ⟨c3, hF⟩ := ck_some hF
    refine vj_iald G (x := x3) lkR_22 (by decide) c3 d_m_free_64 ?_
    refine vj_mr (fun hM4 => ?_)
    refine vj_if_lt G (tgt := 87) d_m_free_65 (by decide) (mr_a hM4 lkR_22) (fun c5 => ?_) (fun c5 => ?_)
    · rw [if_pos c5] at hF
      exact wk_m_free_87 G0 n k51 hk51 x1 x2 x3 hx1 hx2 hx3 _ hF
    · rw [if_neg c5] at hF
      refine vj_iload_n G (p9 := 2) d_m_free_68 rfl rfl ?_
      refine vj_aload_n G (p9 := 0) d_m_free_69 rfl rfl ?_
      refine gfR_m_130 G d_m_free_70 ?_
      refine vj_iload_n G (p9 := 3) d_m_free_73 rfl rfl ?_
      obtain ⟨c6, hF⟩ := ck_some hF
      refine vj_iald G (x := x3) lkR_22 (by decide) c6 d_m_free_74 ?_
      refine vj_mr (fun hM7 => ?_)
      refine vj_ishr G d_m_free_75 ?_
      refine vj_iconst G (v := 1) d_m_free_76 rfl ?_
      refine vj_iand G d_m_free_77 ?_
      refine vj_iconst G (v := 1) d_m_free_78 rfl ?_
      refine vj_icmp_ne G (tgt := 87) d_m_free_79 (by decide) (ir_an _ _) ic_1 (fun c8 => ?_) (fun c8 => ?_)
      · rw [if_pos c8] at hF
        exact wk_m_free_87 G0 n k51 hk51 x1 x2 x3 hx1 hx2 hx3 _ hF
      · rw [if_neg c8] at hF
        refine vj_aload_n G (p9 := 0) d_m_free_82 rfl rfl ?_
        refine vj_iload_n G (p9 := 3) d_m_free_83 rfl rfl ?_
        obtain ⟨r9, M9, e9, hF⟩ := bnd_some hF
        refine vj_callV0 G (ct_m_good (gx_ij G) n x3 hx3 e9) lkR_0 clR_0 rfl q_1798 cq_m_good rfl (by decide) (by decide) (Nat.le_of_ble_eq_true rfl) d_m_free_84 rfl (fun hr9 => ?_)
        exact wk_m_free_87 G0 n k51 hk51 x1 x2 x3 hx1 hx2 hx3 _ hF
set_option maxHeartbeats 4000000 in
set_option maxRecDepth 100000 in
theorem wl_m_free_51 {w : Wd} {X : Cx} {r : Int} {M9 : Mm} (G0 : Gx LR w X "WhoRulesModel" b_m_free 6 11 249 (some .long)) (n : Nat) : ∀ (f : Nat) (x1 x2 x3 : Int) (hx1 : inR x1) (hx2 : inR x2) (hx3 : inR x3) (M : Mm), lp_m_free_51 n f x1 x2 x3 M = some (r, M9) → VJ LR w X 6 2 r M9 M [(0, .ref (wa w 0)), (1, .int (i32 x1)), (2, .int (i32 x2)), (3, .int (i32 x3))] [] 51 := by
  intro f
  induction f with
  | zero => intro x1 x2 x3 hx1 hx2 hx3 M hF; cases hF
  | succ f ih => intro x1 x2 x3 hx1 hx2 hx3 M hF; exact wk_m_free_51 G0 n (lp_m_free_51 n f) ih x1 x2 x3 hx1 hx2 hx3 M hF
set_option maxHeartbeats 4000000 in
set_option maxRecDepth 100000 in
theorem ct_m_free {w : Wd} (hij : ij LR w) (n : Nat) (x1 : Int) (hx1 : inR x1) {M : Mm} {r : Int} {M9 : Mm} (hF : f_m_free n x1 M = some (r, M9)) : Ct LR w y_m_free b_m_free 6 (some .long) 11 249 2 [.ref (wa w 0), .int (i32 x1)] M r M9 := by
  refine Ct.of hij KstR (by decide +kernel) (Nat.le_of_ble_eq_true rfl) (fun X G0 => ?_)
  have G := G0.1
  show VJ LR w X 6 2 r M9 M [(0, .ref (wa w 0)), (1, .int (i32 x1))] [] 0
  unfold f_m_free at hF
  refine vj_aload_n G (p9 := 0) d_m_free_0 rfl rfl ?_
  refine vj_iload_n G (p9 := 1) d_m_free_1 rfl rfl ?_
  obtain ⟨r1, M1, e1, hF⟩ := bnd_some hF
  refine vj_callV3 G (ct_m_isFirm (gx_ij G) n x1 hx1 e1) lkR_0 clR_0 rfl q_1555 cq_m_isFirm rfl (by decide) (by decide) (Nat.le_of_ble_eq_true rfl) d_m_free_2 rfl (fun hr1 => ?_)
  refine vj_if_ne G (tgt := 12) d_m_free_5 (by decide) (ir_b hr1) (fun c2 => ?_) (fun c2 => ?_)
  · rw [if_pos c2] at hF
    refine vj_aload_n G (p9 := 0) d_m_free_12 rfl rfl ?_
    refine vj_aload_n G (p9 := 0) d_m_free_13 rfl rfl ?_
    refine gfR_m_7 G d_m_free_14 ?_
    refine vj_mr (fun hM3 => ?_)
    obtain ⟨r4, M4, e4, hF⟩ := bnd_some hF
    refine vj_callV0 G (ct_m_least (gx_ij G) n (M1 0 0) (mr_o hM3 lkR_0 flR_0_0) e4) lkR_0 clR_0 rfl q_1696 cq_m_least rfl (by decide) (by decide) (Nat.le_of_ble_eq_true rfl) d_m_free_17 rfl (fun hr4 => ?_)
    refine vj_aload_n G (p9 := 0) d_m_free_20 rfl rfl ?_
    refine gfR_m_151 G d_m_free_21 ?_
    refine vj_iload_n G (p9 := 1) d_m_free_24 rfl rfl ?_
    obtain ⟨c5, hF⟩ := ck_some hF
    refine vj_iald G (x := x1) lkR_29 (by decide) c5 d_m_free_25 ?_
    refine vj_mr (fun hM6 => ?_)
    refine vj_if_ge G (tgt := 33) d_m_free_26 (by decide) (mr_a hM6 lkR_29) (fun c7 => ?_) (fun c7 => ?_)
    · rw [if_pos c7] at hF
      refine vj_aload_n G (p9 := 0) d_m_free_33 rfl rfl ?_
      refine vj_aload_n G (p9 := 0) d_m_free_34 rfl rfl ?_
      refine gfR_m_151 G d_m_free_35 ?_
      refine vj_iload_n G (p9 := 1) d_m_free_38 rfl rfl ?_
      obtain ⟨c8, hF⟩ := ck_some hF
      refine vj_iald G (x := x1) lkR_29 (by decide) c8 d_m_free_39 ?_
      refine vj_mr (fun hM9 => ?_)
      obtain ⟨r10, M10, e10, hF⟩ := bnd_some hF
      refine vj_callV1 G (ct_m_groupOf (gx_ij G) n (M4 29 x1.toNat) (mr_a hM9 lkR_29) e10) lkR_0 clR_0 rfl q_1716 cq_m_groupOf rfl (by decide) (by decide) (Nat.le_of_ble_eq_true rfl) d_m_free_40 rfl (fun hr10 => ?_)
      refine vj_istore_n G (lv2 := [(2, .int (i32 r10)), (0, .ref (wa w 0)), (1, .int (i32 x1))]) d_m_free_43 rfl (by decide) rfl ?_
      refine vj_aload_n G (p9 := 1) d_m_free_44 rfl rfl ?_
      refine vj_iconst G (v := 0) d_m_free_45 rfl ?_
      refine pfR_m_194 G ic_0 d_m_free_46 ?_
      refine vj_iconst G (v := 0) d_m_free_49 rfl ?_
      refine vj_istore_n G (lv2 := [(3, .int (i32 0)), (2, .int (i32 r10)), (0, .ref (wa w 0)), (1, .int (i32 x1))]) d_m_free_50 rfl (by decide) rfl ?_
      refine vj_sub [2, 3, 1, 0] rfl ?_
      exact wl_m_free_51 G0 n  n x1 r10 0 hx1 hr10 ic_0 _ hF
    · rw [if_neg c7] at hF
      refine vj_ldc2 G (v := (-9223372036854775808)) d_m_free_29 q_1748 rfl ?_
      cases hF
      exact vj_lret G0 ⟨by decide, by decide⟩ d_m_free_32
  · rw [if_neg c2] at hF
    refine vj_ldc2 G (v := (-9223372036854775808)) d_m_free_8 q_1748 rfl ?_
    cases hF
    exact vj_lret G0 ⟨by decide, by decide⟩ d_m_free_11
set_option maxHeartbeats 4000000 in
set_option maxRecDepth 100000 in
theorem wk_m_may_121 {w : Wd} {X : Cx} {r : Int} {M9 : Mm} (G0 : Gx LR w X "WhoRulesModel" b_m_may 6 9 207 (some .int)) (n : Nat) (k54 : Int → Int → Int → Int → Int → Mm → Rr) (hk54 : ∀ (x1 x2 x3 x4 x5 : Int) (hx1 : inR x1) (hx2 : inR x2) (hx3 : inR x3) (hx4 : inR x4) (hx5 : inR x5) (M : Mm), k54 x1 x2 x3 x4 x5 M = some (r, M9) → VJ LR w X 6 1 r M9 M [(0, .ref (wa w 0)), (1, .int (i32 x1)), (2, .int (i32 x2)), (3, .int (i32 x3)), (4, .int (i32 x4)), (5, .int (i32 x5))] [] 54) (x1 x2 x3 x4 x5 : Int) (hx1 : inR x1) (hx2 : inR x2) (hx3 : inR x3) (hx4 : inR x4) (hx5 : inR x5) (M : Mm) (hF : f_m_may_121 n k54 x1 x2 x3 x4 x5 M = some (r, M9)) : VJ LR w X 6 1 r M9 M [(0, .ref (wa w 0)), (1, .int (i32 x1)), (2, .int (i32 x2)), (3, .int (i32 x3)), (4, .int (i32 x4)), (5, .int (i32 x5))] [] 121 := by
  have G := G0.1
  unfold f_m_may_121 at hF
  refine vj_iinc G (p9 := 5) (n := 1) (lv2 := [(5, .int (i32 (w32 (x5 + 1)))), (0, .ref (wa w 0)), (1, .int (i32 x1)), (2, .int (i32 x2)), (3, .int (i32 x3)), (4, .int (i32 x4))]) d_m_may_121 rfl (by decide) rfl ?_
  refine vj_goto G (tgt := 54) d_m_may_124 (by decide) ?_
  refine vj_sub [1, 2, 3, 4, 5, 0] rfl ?_
  exact hk54 x1 x2 x3 x4 (w32 (x5 + 1)) hx1 hx2 hx3 hx4 (ir_w _) _ hF
set_option maxHeartbeats 4000000 in
set_option maxRecDepth 100000 in
theorem wk_m_may_109 {w : Wd} {X : Cx} {r : Int} {M9 : Mm} (G0 : Gx LR w X "WhoRulesModel" b_m_may 6 9 207 (some .int)) (n : Nat) (k54 : Int → Int → Int → Int → Int → Mm → Rr) (hk54 : ∀ (x1 x2 x3 x4 x5 : Int) (hx1 : inR x1) (hx2 : inR x2) (hx3 : inR x3) (hx4 : inR x4) (hx5 : inR x5) (M : Mm), k54 x1 x2 x3 x4 x5 M = some (r, M9) → VJ LR w X 6 1 r M9 M [(0, .ref (wa w 0)), (1, .int (i32 x1)), (2, .int (i32 x2)), (3, .int (i32 x3)), (4, .int (i32 x4)), (5, .int (i32 x5))] [] 54) (x1 x2 x3 x4 x5 s1 s2 : Int) (hx1 : inR x1) (hx2 : inR x2) (hx3 : inR x3) (hx4 : inR x4) (hx5 : inR x5) (hs1 : inR s1) (hs2 : inR s2) (M : Mm) (hF : f_m_may_109 n k54 x1 x2 x3 x4 x5 s1 s2 M = some (r, M9)) : VJ LR w X 6 1 r M9 M [(0, .ref (wa w 0)), (1, .int (i32 x1)), (2, .int (i32 x2)), (3, .int (i32 x3)), (4, .int (i32 x4)), (5, .int (i32 x5))] [.int (i32 s2), .int (i32 s1), .ref (wa w 22)] 109 := by
  have G := G0.1
  unfold f_m_may_109 at hF
  obtain ⟨c1, hF⟩ := ck_some hF
  refine vj_iast G (x := s1) lkR_22 (by decide) (by decide) (by decide) c1 hs2 d_m_may_109 ?_
  refine vj_aload_n G (p9 := 0) d_m_may_110 rfl rfl ?_
  refine gfR_m_133 G d_m_may_111 ?_
  refine vj_iload G (p9 := 5) d_m_may_114 rfl ?_
  refine vj_aload_n G (p9 := 0) d_m_may_116 rfl rfl ?_
  refine gfR_m_7 G d_m_may_117 ?_
  refine vj_mr (fun hM2 => ?_)
  obtain ⟨c3, hF⟩ := ck_some hF
  refine vj_iast G (x := x5) lkR_23 (by decide) (by decide) (by decide) c3 (mr_o hM2 lkR_0 flR_0_0) d_m_may_120 ?_
  exact wk_m_may_121 G0 n k54 hk54 x1 x2 x3 x4 x5 hx1 hx2 hx3 hx4 hx5 _ hF
set_option maxHeartbeats 4000000 in
set_option maxRecDepth 100000 in
theorem wk_m_may_93 {w : Wd} {X : Cx} {r : Int} {M9 : Mm} (G0 : Gx LR w X "WhoRulesModel" b_m_may 6 9 207 (some .int)) (n : Nat) (k54 : Int → Int → Int → Int → Int → Mm → Rr) (hk54 : ∀ (x1 x2 x3 x4 x5 : Int) (hx1 : inR x1) (hx2 : inR x2) (hx3 : inR x3) (hx4 : inR x4) (hx5 : inR x5) (M : Mm), k54 x1 x2 x3 x4 x5 M = some (r, M9) → VJ LR w X 6 1 r M9 M [(0, .ref (wa w 0)), (1, .int (i32 x1)), (2, .int (i32 x2)), (3, .int (i32 x3)), (4, .int (i32 x4)), (5, .int (i32 x5))] [] 54) (x1 x2 x3 x4 x5 : Int) (hx1 : inR x1) (hx2 : inR x2) (hx3 : inR x3) (hx4 : inR x4) (hx5 : inR x5) (M : Mm) (hF : f_m_may_93 n k54 x1 x2 x3 x4 x5 M = some (r, M9)) : VJ LR w X 6 1 r M9 M [(0, .ref (wa w 0)), (1, .int (i32 x1)), (2, .int (i32 x2)), (3, .int (i32 x3)), (4, .int (i32 x4)), (5, .int (i32 x5))] [] 93 := by
  have G := G0.1
  unfold f_m_may_93 at hF
  refine vj_aload_n G (p9 := 0) d_m_may_93 rfl rfl ?_
  refine gfR_m_130 G d_m_may_94 ?_
  refine vj_iload G (p9 := 5) d_m_may_97 rfl ?_
  refine vj_iload G (p9 := 4) d_m_may_99 rfl ?_
  refine vj_if_ne G (tgt := 108) d_m_may_101 (by decide) hx4 (fun c1 => ?_) (fun c1 => ?_)
  · rw [if_pos c1] at hF
    refine vj_iconst G (v := (-1)) d_m_may_108 rfl ?_
    exact wk_m_may_109 G0 n k54 hk54 x1 x2 x3 x4 x5 x5 (-1) hx1 hx2 hx3 hx4 hx5 hx5 ic_m1 _ hF
  · rw [if_neg c1] at hF
    refine vj_iload_n G (p9 := 1) d_m_may_104 rfl rfl ?_
    refine vj_goto G (tgt := 109) d_m_may_105 (by decide) ?_
    exact wk_m_may_109 G0 n k54 hk54 x1 x2 x3 x4 x5 x5 x1 hx1 hx2 hx3 hx4 hx5 hx5 hx1 _ hF
set_option maxHeartbeats 4000000 in
set_option maxRecDepth 100000 in
theorem wk_m_may_54 {w : Wd} {X : Cx} {r : Int} {M9 : Mm} (G0 : Gx LR w X "WhoRulesModel" b_m_may 6 9 207 (some .int)) (n : Nat) (k54 : Int → Int → Int → Int → Int → Mm → Rr) (hk54 : ∀ (x1 x2 x3 x4 x5 : Int) (hx1 : inR x1) (hx2 : inR x2) (hx3 : inR x3) (hx4 : inR x4) (hx5 : inR x5) (M : Mm), k54 x1 x2 x3 x4 x5 M = some (r, M9) → VJ LR w X 6 1 r M9 M [(0, .ref (wa w 0)), (1, .int (i32 x1)), (2, .int (i32 x2)), (3, .int (i32 x3)), (4, .int (i32 x4)), (5, .int (i32 x5))] [] 54) (x1 x2 x3 x4 x5 : Int) (hx1 : inR x1) (hx2 : inR x2) (hx3 : inR x3) (hx4 : inR x4) (hx5 : inR x5) (M : Mm) (hF : f_m_may_54 n k54 x1 x2 x3 x4 x5 M = some (r, M9)) : VJ LR w X 6 1 r M9 M [(0, .ref (wa w 0)), (1, .int (i32 x1)), (2, .int (i32 x2)), (3, .int (i32 x3)), (4, .int (i32 x4)), (5, .int (i32 x5))] [] 54 := by
  have G := G0.1
  unfold f_m_may_54 at hF
  refine vj_iload G (p9 := 5) d_m_may_54 rfl ?_
  refine vj_aload_n G (p9 := 0) d_m_may_56 rfl rfl ?_
  refine gfR_m_19 G d_m_may_57 ?_
  refine vj_mr (fun hM1 => ?_)
  refine vj_icmp_ge G (tgt := 127) d_m_may_60 (by decide) hx5 (mr_o hM1 lkR_0 flR_0_3) (fun c2 => ?_) (fun c2 => ?_)
  · rw [if_pos c2] at hF
    refine vj_aload_n G (p9 := 0) d_m_may_127 rfl rfl ?_
    refine vj_aload_n G (p9 := 0) d_m_may_128 rfl rfl ?_
    refine gfR_m_7 G d_m_may_129 ?_
    refine vj_mr (fun hM3 => ?_)
    obtain ⟨r4, M4, e4, hF⟩ := bnd_some hF
    refine vj_callV0 G (ct_m_findVotes (gx_ij G) n (M 0 0) (mr_o hM3 lkR_0 flR_0_0) e4) lkR_0 clR_0 rfl q_1680 cq_m_findVotes rfl (by decide) (by decide) (Nat.le_of_ble_eq_true rfl) d_m_may_132 rfl (fun hr4 => ?_)
    refine vj_aload_n G (p9 := 0) d_m_may_135 rfl rfl ?_
    obtain ⟨r5, M5, e5, hF⟩ := bnd_some hF
    refine vj_callV0 G (ct_m_findLeast (gx_ij G) n   e5) lkR_0 clR_0 rfl q_1700 cq_m_findLeast rfl (by decide) (by decide) (Nat.le_of_ble_eq_true rfl) d_m_may_136 rfl (fun hr5 => ?_)
    refine vj_aload_n G (p9 := 0) d_m_may_139 rfl rfl ?_
    refine gfR_m_151 G d_m_may_140 ?_
    refine vj_iload_n G (p9 := 2) d_m_may_143 rfl rfl ?_
    obtain ⟨c6, hF⟩ := ck_some hF
    refine vj_iald G (x := x2) lkR_29 (by decide) c6 d_m_may_144 ?_
    refine vj_mr (fun hM7 => ?_)
    refine vj_iload_n G (p9 := 1) d_m_may_145 rfl rfl ?_
    refine vj_icmp_ne G (tgt := 153) d_m_may_146 (by decide) (mr_a hM7 lkR_29) hx1 (fun c8 => ?_) (fun c8 => ?_)
    · rw [if_pos c8] at hF
      refine vj_iconst G (v := 0) d_m_may_153 rfl ?_
      cases hF
      exact vj_iret G0 ic_0 d_m_may_154
    · rw [if_neg c8] at hF
      refine vj_iconst G (v := 1) d_m_may_149 rfl ?_
      refine vj_goto G (tgt := 154) d_m_may_150 (by decide) ?_
      cases hF
      exact vj_iret G0 ic_1 d_m_may_154
  · rw [if_neg c2] at hF
    refine vj_aload_n G (p9 := 0) d_m_may_63 rfl rfl ?_
    refine gfR_m_38 G d_m_may_64 ?_
    refine vj_iload G (p9 := 5) d_m_may_67 rfl ?_
    obtain ⟨c9, hF⟩ := ck_some hF
    refine vj_iald G (x := x5) lkR_5 (by decide) c9 d_m_may_69 ?_
    refine vj_mr (fun hM10 => ?_)
    refine vj_iload_n G (p9 := 3) d_m_may_70 rfl rfl ?_
    refine vj_icmp_ge G (tgt := 121) d_m_may_71 (by decide) (mr_a hM10 lkR_5) hx3 (fun c11 => ?_) (fun c11 => ?_)
    · rw [if_pos c11] at hF
      exact wk_m_may_121 G0 n k54 hk54 x1 x2 x3 x4 x5 hx1 hx2 hx3 hx4 hx5 _ hF
    · rw [if_neg c11] at hF
      refine vj_iload G (p9 := 4) d_m_may_74 rfl ?_
      refine vj_if_ne G (tgt := 93) d_m_may_76 (by decide) hx4 (fun c12 => ?_) (fun c12 => ?_)
      · rw [if_pos c12] at hF
        exact wk_m_may_93 G0 n k54 hk54 x1 x2 x3 x4 x5 hx1 hx2 hx3 hx4 hx5 _ hF
      · rw [if_neg c12] at hF
        refine vj_aload_n G (p9 := 0) d_m_may_79 rfl rfl ?_
        refine gfR_m_130 G d_m_may_80 ?_
        refine vj_iload G (p9 := 5) d_m_may_83 rfl ?_
        obtain ⟨c13, hF⟩ := ck_some hF
        refine vj_iald G (x := x5) lkR_22 (by decide) c13 d_m_may_85 ?_
        refine vj_mr (fun hM14 => ?_)
        refine vj_iload_n G (p9 := 1) d_m_may_86 rfl rfl ?_
        refine vj_icmp_ne G (tgt := 93) d_m_may_87 (by decide) (mr_a hM14 lkR_22) hx1 (fun c15 => ?_) (fun c15 => ?_)
        · rw [if_pos c15] at hF
          exact wk_m_may_93 G0 n k54 hk54 x1 x2 x3 x4 x5 hx1 hx2 hx3 hx4 hx5 _ hF
        · rw [if_neg c15] at hF
          refine vj_goto G (tgt := 121) d_m_may_90 (by decide) ?_
          exact wk_m_may_121 G0 n k54 hk54 x1 x2 x3 x4 x5 hx1 hx2 hx3 hx4 hx5 _ hF
set_option maxHeartbeats 4000000 in
set_option maxRecDepth 100000 in
theorem wl_m_may_54 {w : Wd} {X : Cx} {r : Int} {M9 : Mm} (G0 : Gx LR w X "WhoRulesModel" b_m_may 6 9 207 (some .int)) (n : Nat) : ∀ (f : Nat) (x1 x2 x3 x4 x5 : Int) (hx1 : inR x1) (hx2 : inR x2) (hx3 : inR x3) (hx4 : inR x4) (hx5 : inR x5) (M : Mm), lp_m_may_54 n f x1 x2 x3 x4 x5 M = some (r, M9) → VJ LR w X 6 1 r M9 M [(0, .ref (wa w 0)), (1, .int (i32 x1)), (2, .int (i32 x2)), (3, .int (i32 x3)), (4, .int (i32 x4)), (5, .int (i32 x5))] [] 54 := by
  intro f
  induction f with
  | zero => intro x1 x2 x3 x4 x5 hx1 hx2 hx3 hx4 hx5 M hF; cases hF
  | succ f ih => intro x1 x2 x3 x4 x5 hx1 hx2 hx3 hx4 hx5 M hF; exact wk_m_may_54 G0 n (lp_m_may_54 n f) ih x1 x2 x3 x4 x5 hx1 hx2 hx3 hx4 hx5 M hF
set_option maxHeartbeats 4000000 in
set_option maxRecDepth 100000 in
theorem ct_m_may {w : Wd} (hij : ij LR w) (n : Nat) (x1 x2 x3 x4 : Int) (hx1 : inR x1) (hx2 : inR x2) (hx3 : inR x3) (hx4 : inR x4) {M : Mm} {r : Int} {M9 : Mm} (hF : f_m_may n x1 x2 x3 x4 M = some (r, M9)) : Ct LR w y_m_may b_m_may 6 (some .int) 9 207 1 [.ref (wa w 0), .int (i32 x1), .int (i32 x2), .int (i32 x3), .int (i32 x4)] M r M9 := by
  refine Ct.of hij KstR (by decide +kernel) (Nat.le_of_ble_eq_true rfl) (fun X G0 => ?_)
  have G := G0.1
  show VJ LR w X 6 1 r M9 M [(0, .ref (wa w 0)), (1, .int (i32 x1)), (2, .int (i32 x2)), (3, .int (i32 x3)), (4, .int (i32 x4))] [] 0
  unfold f_m_may at hF
  refine vj_aload_n G (p9 := 0) d_m_may_0 rfl rfl ?_
  refine vj_iload_n G (p9 := 1) d_m_may_1 rfl rfl ?_
  obtain ⟨r1, M1, e1, hF⟩ := bnd_some hF
  refine vj_callV3 G (ct_m_isRuler (gx_ij G) n x1 hx1 e1) lkR_0 clR_0 rfl q_1708 cq_m_isRuler rfl (by decide) (by decide) (Nat.le_of_ble_eq_true rfl) d_m_may_2 rfl (fun hr1 => ?_)
  refine vj_if_eq G (tgt := 27) d_m_may_5 (by decide) (ir_b hr1) (fun c2 => ?_) (fun c2 => ?_)
  · rw [if_pos c2] at hF
    refine vj_iconst G (v := (-1)) d_m_may_27 rfl ?_
    cases hF
    exact vj_iret G0 ic_m1 d_m_may_28
  · rw [if_neg c2] at hF
    refine vj_aload_n G (p9 := 0) d_m_may_8 rfl rfl ?_
    refine vj_iload_n G (p9 := 2) d_m_may_9 rfl rfl ?_
    obtain ⟨r3, M3, e3, hF⟩ := bnd_some hF
    refine vj_callV3 G (ct_m_isFirm (gx_ij G) n x2 hx2 e3) lkR_0 clR_0 rfl q_1555 cq_m_isFirm rfl (by decide) (by decide) (Nat.le_of_ble_eq_true rfl) d_m_may_10 rfl (fun hr3 => ?_)
    refine vj_if_eq G (tgt := 27) d_m_may_13 (by decide) (ir_b hr3) (fun c4 => ?_) (fun c4 => ?_)
    · rw [if_pos c4] at hF
      refine vj_iconst G (v := (-1)) d_m_may_27 rfl ?_
      cases hF
      exact vj_iret G0 ic_m1 d_m_may_28
    · rw [if_neg c4] at hF
      refine vj_aload_n G (p9 := 0) d_m_may_16 rfl rfl ?_
      refine vj_iload G (p9 := 4) d_m_may_17 rfl ?_
      refine vj_iconst G (v := 0) d_m_may_19 rfl ?_
      refine vj_iconst G (v := 1) d_m_may_20 rfl ?_
      obtain ⟨r5, M5, e5, hF⟩ := bnd_some hF
      refine vj_callV3 G (ct_m_in (gx_ij G) n x4 0 1 hx4 ic_0 ic_1 e5) lkR_0 clR_0 rfl q_1543 cq_m_in rfl (by decide) (by decide) (Nat.le_of_ble_eq_true rfl) d_m_may_21 rfl (fun hr5 => ?_)
      refine vj_if_ne G (tgt := 29) d_m_may_24 (by decide) (ir_b hr5) (fun c6 => ?_) (fun c6 => ?_)
      · rw [if_pos c6] at hF
        refine vj_aload_n G (p9 := 0) d_m_may_29 rfl rfl ?_
        refine vj_iload_n G (p9 := 3) d_m_may_30 rfl rfl ?_
        refine vj_iconst G (v := 0) d_m_may_31 rfl ?_
        refine vj_bipush G (v := 12) d_m_may_32 rfl ?_
        obtain ⟨r7, M7, e7, hF⟩ := bnd_some hF
        refine vj_callV3 G (ct_m_in (gx_ij G) n x3 0 12 hx3 ic_0 ic_12 e7) lkR_0 clR_0 rfl q_1543 cq_m_in rfl (by decide) (by decide) (Nat.le_of_ble_eq_true rfl) d_m_may_34 rfl (fun hr7 => ?_)
        refine vj_if_ne G (tgt := 43) d_m_may_37 (by decide) (ir_b hr7) (fun c8 => ?_) (fun c8 => ?_)
        · rw [if_pos c8] at hF
          refine vj_aload_n G (p9 := 0) d_m_may_43 rfl rfl ?_
          refine vj_aload_n G (p9 := 0) d_m_may_44 rfl rfl ?_
          refine gfR_m_7 G d_m_may_45 ?_
          refine vj_mr (fun hM9 => ?_)
          obtain ⟨r10, M10, e10, hF⟩ := bnd_some hF
          refine vj_callV0 G (ct_m_layOut (gx_ij G) n (M7 0 0) (mr_o hM9 lkR_0 flR_0_0) e10) lkR_0 clR_0 rfl q_1676 cq_m_layOut rfl (by decide) (by decide) (Nat.le_of_ble_eq_true rfl) d_m_may_48 rfl (fun hr10 => ?_)
          refine vj_iconst G (v := 0) d_m_may_51 rfl ?_
          refine vj_istore G (lv2 := [(5, .int (i32 0)), (0, .ref (wa w 0)), (1, .int (i32 x1)), (2, .int (i32 x2)), (3, .int (i32 x3)), (4, .int (i32 x4))]) d_m_may_52 (by decide) rfl ?_
          refine vj_sub [1, 2, 3, 4, 5, 0] rfl ?_
          exact wl_m_may_54 G0 n  n x1 x2 x3 x4 0 hx1 hx2 hx3 hx4 ic_0 _ hF
        · rw [if_neg c8] at hF
          refine vj_bipush G (v := (-2)) d_m_may_40 rfl ?_
          cases hF
          exact vj_iret G0 ic_m2 d_m_may_42
      · rw [if_neg c6] at hF
        refine vj_iconst G (v := (-1)) d_m_may_27 rfl ?_
        cases hF
        exact vj_iret G0 ic_m1 d_m_may_28
set_option maxHeartbeats 4000000 in
set_option maxRecDepth 100000 in
theorem ct_m_motion {w : Wd} (hij : ij LR w) (n : Nat) (x1 x2 : Int) (hx1 : inR x1) (hx2 : inR x2) {M : Mm} {r : Int} {M9 : Mm} (hF : f_m_motion n x1 x2 M = some (r, M9)) : Ct LR w y_m_motion b_m_motion 3 (some .int) 1 23 1 [.ref (wa w 0), .int (i32 x1), .int (i32 x2)] M r M9 := by
  refine Ct.of hij KstR (by decide +kernel) (Nat.le_of_ble_eq_true rfl) (fun X G0 => ?_)
  have G := G0.1
  show VJ LR w X 3 1 r M9 M [(0, .ref (wa w 0)), (1, .int (i32 x1)), (2, .int (i32 x2))] [] 0
  unfold f_m_motion at hF
  refine vj_aload_n G (p9 := 0) d_m_motion_0 rfl rfl ?_
  refine vj_iload_n G (p9 := 1) d_m_motion_1 rfl rfl ?_
  refine vj_iconst G (v := 0) d_m_motion_2 rfl ?_
  refine vj_iconst G (v := 1) d_m_motion_3 rfl ?_
  refine vj_aload_n G (p9 := 0) d_m_motion_4 rfl rfl ?_
  refine gfR_m_13 G d_m_motion_5 ?_
  refine vj_mr (fun hM1 => ?_)
  refine vj_ishl G d_m_motion_8 ?_
  refine vj_iconst G (v := 1) d_m_motion_9 rfl ?_
  refine vj_isub G d_m_motion_10 ?_
  obtain ⟨r2, M2, e2, hF⟩ := bnd_some hF
  refine vj_callV3 G (ct_m_in (gx_ij G) n x1 0 (w32 ((ish 1 (M 0 1)) - 1)) hx1 ic_0 (ir_w _) e2) lkR_0 clR_0 rfl q_1543 cq_m_in rfl (by decide) (by decide) (Nat.le_of_ble_eq_true rfl) d_m_motion_11 rfl (fun hr2 => ?_)
  refine vj_if_eq G (tgt := 40) d_m_motion_14 (by decide) (ir_b hr2) (fun c3 => ?_) (fun c3 => ?_)
  · rw [if_pos c3] at hF
    refine vj_bipush G (v := (-2)) d_m_motion_40 rfl ?_
    cases hF
    exact vj_iret G0 ic_m2 d_m_motion_42
  · rw [if_neg c3] at hF
    refine vj_aload_n G (p9 := 0) d_m_motion_17 rfl rfl ?_
    refine vj_iload_n G (p9 := 2) d_m_motion_18 rfl rfl ?_
    refine vj_iconst G (v := 0) d_m_motion_19 rfl ?_
    refine vj_iconst G (v := 1) d_m_motion_20 rfl ?_
    refine vj_aload_n G (p9 := 0) d_m_motion_21 rfl rfl ?_
    refine gfR_m_13 G d_m_motion_22 ?_
    refine vj_mr (fun hM4 => ?_)
    refine vj_ishl G d_m_motion_25 ?_
    refine vj_iconst G (v := 1) d_m_motion_26 rfl ?_
    refine vj_isub G d_m_motion_27 ?_
    obtain ⟨r5, M5, e5, hF⟩ := bnd_some hF
    refine vj_callV3 G (ct_m_in (gx_ij G) n x2 0 (w32 ((ish 1 (M2 0 1)) - 1)) hx2 ic_0 (ir_w _) e5) lkR_0 clR_0 rfl q_1543 cq_m_in rfl (by decide) (by decide) (Nat.le_of_ble_eq_true rfl) d_m_motion_28 rfl (fun hr5 => ?_)
    refine vj_if_eq G (tgt := 40) d_m_motion_31 (by decide) (ir_b hr5) (fun c6 => ?_) (fun c6 => ?_)
    · rw [if_pos c6] at hF
      refine vj_bipush G (v := (-2)) d_m_motion_40 rfl ?_
      cases hF
      exact vj_iret G0 ic_m2 d_m_motion_42
    · rw [if_neg c6] at hF
      refine vj_iload_n G (p9 := 1) d_m_motion_34 rfl rfl ?_
      refine vj_iload_n G (p9 := 2) d_m_motion_35 rfl rfl ?_
      refine vj_iand G d_m_motion_36 ?_
      refine vj_if_eq G (tgt := 43) d_m_motion_37 (by decide) (ir_an _ _) (fun c7 => ?_) (fun c7 => ?_)
      · rw [if_pos c7] at hF
        refine vj_aload_n G (p9 := 0) d_m_motion_43 rfl rfl ?_
        refine gfR_m_204 G d_m_motion_44 ?_
        refine vj_mr (fun hM8 => ?_)
        refine vj_bipush G (v := 30) d_m_motion_47 rfl ?_
        refine vj_icmp_ne G (tgt := 55) d_m_motion_49 (by decide) (mr_o hM8 lkR_0 flR_0_63) ic_30 (fun c9 => ?_) (fun c9 => ?_)
        · rw [if_pos c9] at hF
          refine vj_aload_n G (p9 := 0) d_m_motion_55 rfl rfl ?_
          refine gfR_m_207 G d_m_motion_56 ?_
          refine vj_aload_n G (p9 := 0) d_m_motion_59 rfl rfl ?_
          refine gfR_m_204 G d_m_motion_60 ?_
          refine vj_mr (fun hM10 => ?_)
          refine vj_iload_n G (p9 := 1) d_m_motion_63 rfl rfl ?_
          obtain ⟨c11, hF⟩ := ck_some hF
          refine vj_iast G (x := (M5 0 63)) lkR_40 (by decide) (by decide) (by decide) c11 hx1 d_m_motion_64 ?_
          refine vj_aload_n G (p9 := 0) d_m_motion_65 rfl rfl ?_
          refine gfR_m_210 G d_m_motion_66 ?_
          refine vj_aload_n G (p9 := 0) d_m_motion_69 rfl rfl ?_
          refine gfR_m_204 G d_m_motion_70 ?_
          refine vj_mr (fun hM12 => ?_)
          refine vj_iload_n G (p9 := 2) d_m_motion_73 rfl rfl ?_
          obtain ⟨c13, hF⟩ := ck_some hF
          refine vj_iast G (x := ((mset M5 40 (M5 0 63).toNat x1) 0 63)) lkR_41 (by decide) (by decide) (by decide) c13 hx2 d_m_motion_74 ?_
          refine vj_aload_n G (p9 := 0) d_m_motion_75 rfl rfl ?_
          refine vj_dup G d_m_motion_76 rfl ?_
          refine gfR_m_204 G d_m_motion_77 ?_
          refine vj_mr (fun hM14 => ?_)
          refine vj_iconst G (v := 1) d_m_motion_80 rfl ?_
          refine vj_iadd G d_m_motion_81 ?_
          refine pfR_m_204 G (ir_w _) d_m_motion_82 ?_
          refine vj_aload_n G (p9 := 0) d_m_motion_85 rfl rfl ?_
          refine gfR_m_204 G d_m_motion_86 ?_
          refine vj_mr (fun hM15 => ?_)
          refine vj_iconst G (v := 1) d_m_motion_89 rfl ?_
          refine vj_isub G d_m_motion_90 ?_
          cases hF
          exact vj_iret G0 (ir_w _) d_m_motion_91
        · rw [if_neg c9] at hF
          refine vj_bipush G (v := (-4)) d_m_motion_52 rfl ?_
          cases hF
          exact vj_iret G0 ic_m4 d_m_motion_54
      · rw [if_neg c7] at hF
        refine vj_bipush G (v := (-2)) d_m_motion_40 rfl ?_
        cases hF
        exact vj_iret G0 ic_m2 d_m_motion_42
set_option maxHeartbeats 4000000 in
set_option maxRecDepth 100000 in
theorem wk_m_times_89 {w : Wd} {X : Cx} {r : Int} {M9 : Mm} (G0 : Gx LR w X "WhoRulesModel" b_m_times 8 0 0 (some .int)) (n : Nat) (k6 : Int → Int → Int → Int → Int → Mm → Rr) (hk6 : ∀ (x1 x2 x3 x4 x5 : Int) (hx1 : inR x1) (hx2 : inR x2) (hx3 : inB x3) (hx4 : inR x4) (hx5 : inR x5) (M : Mm), k6 x1 x2 x3 x4 x5 M = some (r, M9) → VJ LR w X 8 1 r M9 M [(0, .ref (wa w 0)), (1, .int (i32 x1)), (2, .int (i32 x2)), (3, .int (i32 x3)), (4, .int (i32 x4)), (5, .int (i32 x5))] [] 6) (x1 x2 x3 x5 s0 s1 : Int) (hx1 : inR x1) (hx2 : inR x2) (hx3 : inB x3) (hx5 : inR x5) (hs0 : inR s0) (hs1 : inB s1) (M : Mm) (hF : f_m_times_89 n k6 x1 x2 x3 x5 s0 s1 M = some (r, M9)) : VJ LR w X 8 1 r M9 M [(0, .ref (wa w 0)), (1, .int (i32 x1)), (2, .int (i32 x2)), (3, .int (i32 x3)), (5, .int (i32 x5))] [.int (i32 s1), .int (i32 s0)] 89 := by
  have G := G0.1
  unfold f_m_times_89 at hF
  refine vj_iadd G d_m_times_89 ?_
  refine vj_istore G (lv2 := [(4, .int (i32 (w32 (s0 + s1)))), (0, .ref (wa w 0)), (1, .int (i32 x1)), (2, .int (i32 x2)), (3, .int (i32 x3)), (5, .int (i32 x5))]) d_m_times_90 (by decide) rfl ?_
  refine vj_iinc G (p9 := 5) (n := 1) (lv2 := [(5, .int (i32 (w32 (x5 + 1)))), (4, .int (i32 (w32 (s0 + s1)))), (0, .ref (wa w 0)), (1, .int (i32 x1)), (2, .int (i32 x2)), (3, .int (i32 x3))]) d_m_times_92 rfl (by decide) rfl ?_
  refine vj_goto G (tgt := 6) d_m_times_95 (by decide) ?_
  refine vj_sub [2, 3, 4, 5, 1, 0] rfl ?_
  exact hk6 x1 x2 x3 (w32 (s0 + s1)) (w32 (x5 + 1)) hx1 hx2 hx3 (ir_w _) (ir_w _) _ hF
set_option maxHeartbeats 4000000 in
set_option maxRecDepth 100000 in
theorem wk_m_times_81 {w : Wd} {X : Cx} {r : Int} {M9 : Mm} (G0 : Gx LR w X "WhoRulesModel" b_m_times 8 0 0 (some .int)) (n : Nat) (k6 : Int → Int → Int → Int → Int → Mm → Rr) (hk6 : ∀ (x1 x2 x3 x4 x5 : Int) (hx1 : inR x1) (hx2 : inR x2) (hx3 : inB x3) (hx4 : inR x4) (hx5 : inR x5) (M : Mm), k6 x1 x2 x3 x4 x5 M = some (r, M9) → VJ LR w X 8 1 r M9 M [(0, .ref (wa w 0)), (1, .int (i32 x1)), (2, .int (i32 x2)), (3, .int (i32 x3)), (4, .int (i32 x4)), (5, .int (i32 x5))] [] 6) (x1 x2 x3 x5 s0 s1 s2 : Int) (hx1 : inR x1) (hx2 : inR x2) (hx3 : inB x3) (hx5 : inR x5) (hs0 : inR s0) (hs1 : inR s1) (hs2 : inR s2) (M : Mm) (hF : f_m_times_81 n k6 x1 x2 x3 x5 s0 s1 s2 M = some (r, M9)) : VJ LR w X 8 1 r M9 M [(0, .ref (wa w 0)), (1, .int (i32 x1)), (2, .int (i32 x2)), (3, .int (i32 x3)), (5, .int (i32 x5))] [.int (i32 s2), .int (i32 s1), .int (i32 s0)] 81 := by
  have G := G0.1
  unfold f_m_times_81 at hF
  refine vj_icmp_ne G (tgt := 88) d_m_times_81 (by decide) hs1 hs2 (fun c1 => ?_) (fun c1 => ?_)
  · rw [if_pos c1] at hF
    refine vj_iconst G (v := 0) d_m_times_88 rfl ?_
    exact wk_m_times_89 G0 n k6 hk6 x1 x2 x3 x5 s0 0 hx1 hx2 hx3 hx5 hs0 (Or.inl rfl) _ hF
  · rw [if_neg c1] at hF
    refine vj_iconst G (v := 1) d_m_times_84 rfl ?_
    refine vj_goto G (tgt := 89) d_m_times_85 (by decide) ?_
    exact wk_m_times_89 G0 n k6 hk6 x1 x2 x3 x5 s0 1 hx1 hx2 hx3 hx5 hs0 (Or.inr rfl) _ hF
set_option maxHeartbeats 4000000 in
set_option maxRecDepth 100000 in
theorem wk_m_times_6 {w : Wd} {X : Cx} {r : Int} {M9 : Mm} (G0 : Gx LR w X "WhoRulesModel" b_m_times 8 0 0 (some .int)) (n : Nat) (k6 : Int → Int → Int → Int → Int → Mm → Rr) (hk6 : ∀ (x1 x2 x3 x4 x5 : Int) (hx1 : inR x1) (hx2 : inR x2) (hx3 : inB x3) (hx4 : inR x4) (hx5 : inR x5) (M : Mm), k6 x1 x2 x3 x4 x5 M = some (r, M9) → VJ LR w X 8 1 r M9 M [(0, .ref (wa w 0)), (1, .int (i32 x1)), (2, .int (i32 x2)), (3, .int (i32 x3)), (4, .int (i32 x4)), (5, .int (i32 x5))] [] 6) (x1 x2 x3 x4 x5 : Int) (hx1 : inR x1) (hx2 : inR x2) (hx3 : inB x3) (hx4 : inR x4) (hx5 : inR x5) (M : Mm) (hF : f_m_times_6 n k6 x1 x2 x3 x4 x5 M = some (r, M9)) : VJ LR w X 8 1 r M9 M [(0, .ref (wa w 0)), (1, .int (i32 x1)), (2, .int (i32 x2)), (3, .int (i32 x3)), (4, .int (i32 x4)), (5, .int (i32 x5))] [] 6 := by
  have G := G0.1
  unfold f_m_times_6 at hF
  refine vj_iload G (p9 := 5) d_m_times_6 rfl ?_
  refine vj_aload_n G (p9 := 0) d_m_times_8 rfl rfl ?_
  refine gfR_m_204 G d_m_times_9 ?_
  refine vj_mr (fun hM1 => ?_)
  refine vj_icmp_ge G (tgt := 98) d_m_times_12 (by decide) hx5 (mr_o hM1 lkR_0 flR_0_63) (fun c2 => ?_) (fun c2 => ?_)
  · rw [if_pos c2] at hF
    refine vj_iload G (p9 := 4) d_m_times_98 rfl ?_
    cases hF
    exact vj_iret G0 hx4 d_m_times_100
  · rw [if_neg c2] at hF
    refine vj_aload_n G (p9 := 0) d_m_times_15 rfl rfl ?_
    refine gfR_m_207 G d_m_times_16 ?_
    refine vj_iload G (p9 := 5) d_m_times_19 rfl ?_
    obtain ⟨c3, hF⟩ := ck_some hF
    refine vj_iald G (x := x5) lkR_40 (by decide) c3 d_m_times_21 ?_
    refine vj_mr (fun hM4 => ?_)
    refine vj_iload_n G (p9 := 1) d_m_times_22 rfl rfl ?_
    refine vj_ishr G d_m_times_23 ?_
    refine vj_iconst G (v := 1) d_m_times_24 rfl ?_
    refine vj_iand G d_m_times_25 ?_
    refine vj_aload_n G (p9 := 0) d_m_times_26 rfl rfl ?_
    refine gfR_m_210 G d_m_times_27 ?_
    refine vj_iload G (p9 := 5) d_m_times_30 rfl ?_
    obtain ⟨c5, hF⟩ := ck_some hF
    refine vj_iald G (x := x5) lkR_41 (by decide) c5 d_m_times_32 ?_
    refine vj_iload_n G (p9 := 1) d_m_times_33 rfl rfl ?_
    refine vj_ishr G d_m_times_34 ?_
    refine vj_iconst G (v := 1) d_m_times_35 rfl ?_
    refine vj_iand G d_m_times_36 ?_
    refine vj_isub G d_m_times_37 ?_
    refine vj_istore G (lv2 := [(6, .int (i32 (w32 ((ian (isr (M 40 x5.toNat) x1) 1) - (ian (isr (M 41 x5.toNat) x1) 1))))), (0, .ref (wa w 0)), (1, .int (i32 x1)), (2, .int (i32 x2)), (3, .int (i32 x3)), (4, .int (i32 x4)), (5, .int (i32 x5))]) d_m_times_38 (by decide) rfl ?_
    refine vj_aload_n G (p9 := 1) d_m_times_40 rfl rfl ?_
    refine gfR_m_207 G d_m_times_41 ?_
    refine vj_iload G (p9 := 6) d_m_times_44 rfl ?_
    obtain ⟨c6, hF⟩ := ck_some hF
    refine vj_iald G (x := x5) lkR_40 (by decide) c6 d_m_times_46 ?_
    refine vj_iload_n G (p9 := 3) d_m_times_47 rfl rfl ?_
    refine vj_ishr G d_m_times_48 ?_
    refine vj_iconst G (v := 1) d_m_times_49 rfl ?_
    refine vj_iand G d_m_times_50 ?_
    refine vj_aload_n G (p9 := 1) d_m_times_51 rfl rfl ?_
    refine gfR_m_210 G d_m_times_52 ?_
    refine vj_iload G (p9 := 6) d_m_times_55 rfl ?_
    obtain ⟨c7, hF⟩ := ck_some hF
    refine vj_iald G (x := x5) lkR_41 (by decide) c7 d_m_times_57 ?_
    refine vj_iload_n G (p9 := 3) d_m_times_58 rfl rfl ?_
    refine vj_ishr G d_m_times_59 ?_
    refine vj_iconst G (v := 1) d_m_times_60 rfl ?_
    refine vj_iand G d_m_times_61 ?_
    refine vj_isub G d_m_times_62 ?_
    refine vj_istore G (lv2 := [(7, .int (i32 (w32 ((ian (isr (M 40 x5.toNat) x2) 1) - (ian (isr (M 41 x5.toNat) x2) 1))))), (6, .int (i32 (w32 ((ian (isr (M 40 x5.toNat) x1) 1) - (ian (isr (M 41 x5.toNat) x1) 1))))), (0, .ref (wa w 0)), (1, .int (i32 x1)), (2, .int (i32 x2)), (3, .int (i32 x3)), (4, .int (i32 x4)), (5, .int (i32 x5))]) d_m_times_63 (by decide) rfl ?_
    refine vj_iload G (p9 := 6) d_m_times_65 rfl ?_
    refine vj_iload G (p9 := 1) d_m_times_67 rfl ?_
    refine vj_iload G (p9 := 0) d_m_times_69 rfl ?_
    refine vj_imul G d_m_times_71 ?_
    refine vj_iload_n G (p9 := 5) d_m_times_72 rfl rfl ?_
    refine vj_if_eq G (tgt := 80) d_m_times_73 (by decide) (ir_b hx3) (fun c8 => ?_) (fun c8 => ?_)
    · rw [if_pos c8] at hF
      refine vj_iconst G (v := (-1)) d_m_times_80 rfl ?_
      refine vj_sub [2, 3, 4, 5, 7] rfl ?_
      exact wk_m_times_81 G0 n k6 hk6 x1 x2 x3 x5 x4 (w32 ((w32 ((ian (isr (M 40 x5.toNat) x1) 1) - (ian (isr (M 41 x5.toNat) x1) 1))) * (w32 ((ian (isr (M 40 x5.toNat) x2) 1) - (ian (isr (M 41 x5.toNat) x2) 1))))) (-1) hx1 hx2 hx3 hx5 hx4 (ir_w _) ic_m1 _ hF
    · rw [if_neg c8] at hF
      refine vj_iconst G (v := 1) d_m_times_76 rfl ?_
      refine vj_goto G (tgt := 81) d_m_times_77 (by decide) ?_
      refine vj_sub [2, 3, 4, 5, 7] rfl ?_
      exact wk_m_times_81 G0 n k6 hk6 x1 x2 x3 x5 x4 (w32 ((w32 ((ian (isr (M 40 x5.toNat) x1) 1) - (ian (isr (M 41 x5.toNat) x1) 1))) * (w32 ((ian (isr (M 40 x5.toNat) x2) 1) - (ian (isr (M 41 x5.toNat) x2) 1))))) 1 hx1 hx2 hx3 hx5 hx4 (ir_w _) ic_1 _ hF
set_option maxHeartbeats 4000000 in
set_option maxRecDepth 100000 in
theorem wl_m_times_6 {w : Wd} {X : Cx} {r : Int} {M9 : Mm} (G0 : Gx LR w X "WhoRulesModel" b_m_times 8 0 0 (some .int)) (n : Nat) : ∀ (f : Nat) (x1 x2 x3 x4 x5 : Int) (hx1 : inR x1) (hx2 : inR x2) (hx3 : inB x3) (hx4 : inR x4) (hx5 : inR x5) (M : Mm), lp_m_times_6 n f x1 x2 x3 x4 x5 M = some (r, M9) → VJ LR w X 8 1 r M9 M [(0, .ref (wa w 0)), (1, .int (i32 x1)), (2, .int (i32 x2)), (3, .int (i32 x3)), (4, .int (i32 x4)), (5, .int (i32 x5))] [] 6 := by
  intro f
  induction f with
  | zero => intro x1 x2 x3 x4 x5 hx1 hx2 hx3 hx4 hx5 M hF; cases hF
  | succ f ih => intro x1 x2 x3 x4 x5 hx1 hx2 hx3 hx4 hx5 M hF; exact wk_m_times_6 G0 n (lp_m_times_6 n f) ih x1 x2 x3 x4 x5 hx1 hx2 hx3 hx4 hx5 M hF
set_option maxHeartbeats 4000000 in
set_option maxRecDepth 100000 in
theorem ct_m_times {w : Wd} (hij : ij LR w) (n : Nat) (x1 x2 x3 : Int) (hx1 : inR x1) (hx2 : inR x2) (hx3 : inB x3) {M : Mm} {r : Int} {M9 : Mm} (hF : f_m_times n x1 x2 x3 M = some (r, M9)) : Ct LR w y_m_times b_m_times 8 (some .int) 0 0 1 [.ref (wa w 0), .int (i32 x1), .int (i32 x2), .int (i32 x3)] M r M9 := by
  refine Ct.of hij KstR (by decide +kernel) (Nat.le_of_ble_eq_true rfl) (fun X G0 => ?_)
  have G := G0.1
  show VJ LR w X 8 1 r M9 M [(0, .ref (wa w 0)), (1, .int (i32 x1)), (2, .int (i32 x2)), (3, .int (i32 x3))] [] 0
  unfold f_m_times at hF
  refine vj_iconst G (v := 0) d_m_times_0 rfl ?_
  refine vj_istore G (lv2 := [(4, .int (i32 0)), (0, .ref (wa w 0)), (1, .int (i32 x1)), (2, .int (i32 x2)), (3, .int (i32 x3))]) d_m_times_1 (by decide) rfl ?_
  refine vj_iconst G (v := 0) d_m_times_3 rfl ?_
  refine vj_istore G (lv2 := [(5, .int (i32 0)), (4, .int (i32 0)), (0, .ref (wa w 0)), (1, .int (i32 x1)), (2, .int (i32 x2)), (3, .int (i32 x3))]) d_m_times_4 (by decide) rfl ?_
  refine vj_sub [2, 3, 4, 5, 1, 0] rfl ?_
  exact wl_m_times_6 G0 n  n x1 x2 x3 0 0 hx1 hx2 hx3 ic_0 ic_0 _ hF
set_option maxHeartbeats 4000000 in
set_option maxRecDepth 100000 in
theorem wk_m_alike_50 {w : Wd} {X : Cx} {r : Int} {M9 : Mm} (G0 : Gx LR w X "WhoRulesModel" b_m_alike 4 2 44 (some .int)) (n : Nat) (s1 s2 s3 : Int) (hs1 : inR s1) (hs2 : inR s2) (hs3 : inB s3) (M : Mm) (hF : f_m_alike_50 n s1 s2 s3 M = some (r, M9)) : VJ LR w X 4 1 r M9 M [] [.int (i32 s3), .int (i32 s2), .int (i32 s1), .ref (wa w 0)] 50 := by
  have G := G0.1
  unfold f_m_alike_50 at hF
  obtain ⟨r1, M1, e1, hF⟩ := bnd_some hF
  refine vj_callV1 G (ct_m_times (gx_ij G) n s1 s2 s3 hs1 hs2 hs3 e1) lkR_0 clR_0 rfl q_1831 cq_m_times rfl (by decide) (by decide) (Nat.le_of_ble_eq_true rfl) d_m_alike_50 rfl (fun hr1 => ?_)
  cases hF
  exact vj_iret G0 hr1 d_m_alike_53
set_option maxHeartbeats 4000000 in
set_option maxRecDepth 100000 in
theorem ct_m_alike {w : Wd} (hij : ij LR w) (n : Nat) (x1 x2 x3 : Int) (hx1 : inR x1) (hx2 : inR x2) (hx3 : inR x3) {M : Mm} {r : Int} {M9 : Mm} (hF : f_m_alike n x1 x2 x3 M = some (r, M9)) : Ct LR w y_m_alike b_m_alike 4 (some .int) 2 44 1 [.ref (wa w 0), .int (i32 x1), .int (i32 x2), .int (i32 x3)] M r M9 := by
  refine Ct.of hij KstR (by decide +kernel) (Nat.le_of_ble_eq_true rfl) (fun X G0 => ?_)
  have G := G0.1
  show VJ LR w X 4 1 r M9 M [(0, .ref (wa w 0)), (1, .int (i32 x1)), (2, .int (i32 x2)), (3, .int (i32 x3))] [] 0
  unfold f_m_alike at hF
  refine vj_aload_n G (p9 := 0) d_m_alike_0 rfl rfl ?_
  refine vj_iload_n G (p9 := 1) d_m_alike_1 rfl rfl ?_
  obtain ⟨r1, M1, e1, hF⟩ := bnd_some hF
  refine vj_callV3 G (ct_m_isHolder (gx_ij G) n x1 hx1 e1) lkR_0 clR_0 rfl q_1559 cq_m_isHolder rfl (by decide) (by decide) (Nat.le_of_ble_eq_true rfl) d_m_alike_2 rfl (fun hr1 => ?_)
  refine vj_if_eq G (tgt := 26) d_m_alike_5 (by decide) (ir_b hr1) (fun c2 => ?_) (fun c2 => ?_)
  · rw [if_pos c2] at hF
    refine vj_iconst G (v := (-1)) d_m_alike_26 rfl ?_
    cases hF
    exact vj_iret G0 ic_m1 d_m_alike_27
  · rw [if_neg c2] at hF
    refine vj_aload_n G (p9 := 0) d_m_alike_8 rfl rfl ?_
    refine vj_iload_n G (p9 := 2) d_m_alike_9 rfl rfl ?_
    obtain ⟨r3, M3, e3, hF⟩ := bnd_some hF
    refine vj_callV3 G (ct_m_isHolder (gx_ij G) n x2 hx2 e3) lkR_0 clR_0 rfl q_1559 cq_m_isHolder rfl (by decide) (by decide) (Nat.le_of_ble_eq_true rfl) d_m_alike_10 rfl (fun hr3 => ?_)
    refine vj_if_eq G (tgt := 26) d_m_alike_13 (by decide) (ir_b hr3) (fun c4 => ?_) (fun c4 => ?_)
    · rw [if_pos c4] at hF
      refine vj_iconst G (v := (-1)) d_m_alike_26 rfl ?_
      cases hF
      exact vj_iret G0 ic_m1 d_m_alike_27
    · rw [if_neg c4] at hF
      refine vj_aload_n G (p9 := 0) d_m_alike_16 rfl rfl ?_
      refine vj_iload_n G (p9 := 3) d_m_alike_17 rfl rfl ?_
      refine vj_iconst G (v := 0) d_m_alike_18 rfl ?_
      refine vj_iconst G (v := 1) d_m_alike_19 rfl ?_
      obtain ⟨r5, M5, e5, hF⟩ := bnd_some hF
      refine vj_callV3 G (ct_m_in (gx_ij G) n x3 0 1 hx3 ic_0 ic_1 e5) lkR_0 clR_0 rfl q_1543 cq_m_in rfl (by decide) (by decide) (Nat.le_of_ble_eq_true rfl) d_m_alike_20 rfl (fun hr5 => ?_)
      refine vj_if_ne G (tgt := 28) d_m_alike_23 (by decide) (ir_b hr5) (fun c6 => ?_) (fun c6 => ?_)
      · rw [if_pos c6] at hF
        refine vj_iload_n G (p9 := 1) d_m_alike_28 rfl rfl ?_
        refine vj_iload_n G (p9 := 2) d_m_alike_29 rfl rfl ?_
        refine vj_icmp_ne G (tgt := 38) d_m_alike_30 (by decide) hx1 hx2 (fun c7 => ?_) (fun c7 => ?_)
        · rw [if_pos c7] at hF
          refine vj_aload_n G (p9 := 0) d_m_alike_38 rfl rfl ?_
          refine vj_iload_n G (p9 := 1) d_m_alike_39 rfl rfl ?_
          refine vj_iload_n G (p9 := 2) d_m_alike_40 rfl rfl ?_
          refine vj_iload_n G (p9 := 3) d_m_alike_41 rfl rfl ?_
          refine vj_if_ne G (tgt := 49) d_m_alike_42 (by decide) hx3 (fun c8 => ?_) (fun c8 => ?_)
          · rw [if_pos c8] at hF
            refine vj_iconst G (v := 0) d_m_alike_49 rfl ?_
            refine vj_sub [] rfl ?_
            exact wk_m_alike_50 G0 n  x1 x2 0 hx1 hx2 (Or.inl rfl) _ hF
          · rw [if_neg c8] at hF
            refine vj_iconst G (v := 1) d_m_alike_45 rfl ?_
            refine vj_goto G (tgt := 50) d_m_alike_46 (by decide) ?_
            refine vj_sub [] rfl ?_
            exact wk_m_alike_50 G0 n  x1 x2 1 hx1 hx2 (Or.inr rfl) _ hF
        · rw [if_neg c7] at hF
          refine vj_bipush G (v := (-2)) d_m_alike_33 rfl ?_
          refine vj_goto G (tgt := 53) d_m_alike_35 (by decide) ?_
          cases hF
          exact vj_iret G0 ic_m2 d_m_alike_53
      · rw [if_neg c6] at hF
        refine vj_iconst G (v := (-1)) d_m_alike_26 rfl ?_
        cases hF
        exact vj_iret G0 ic_m1 d_m_alike_27
set_option maxHeartbeats 4000000 in
set_option maxRecDepth 100000 in
theorem ct_m_isPerson {w : Wd} (hij : ij LR w) (n : Nat) (x1 : Int) (hx1 : inR x1) {M : Mm} {r : Int} {M9 : Mm} (hF : f_m_isPerson n x1 M = some (r, M9)) : Ct LR w y_m_isPerson b_m_isPerson 2 (some .boolean) 0 0 3 [.ref (wa w 0), .int (i32 x1)] M r M9 := by
  refine Ct.of hij KstR (by decide +kernel) (Nat.le_of_ble_eq_true rfl) (fun X G0 => ?_)
  have G := G0.1
  show VJ LR w X 2 3 r M9 M [(0, .ref (wa w 0)), (1, .int (i32 x1))] [] 0
  unfold f_m_isPerson at hF
  refine vj_aload_n G (p9 := 0) d_m_isPerson_0 rfl rfl ?_
  refine gfR_m_25 G d_m_isPerson_1 ?_
  refine vj_iload_n G (p9 := 1) d_m_isPerson_4 rfl rfl ?_
  obtain ⟨c1, hF⟩ := ck_some hF
  refine vj_iald G (x := x1) lkR_1 (by decide) c1 d_m_isPerson_5 ?_
  refine vj_mr (fun hM2 => ?_)
  refine vj_iconst G (v := 2) d_m_isPerson_6 rfl ?_
  refine vj_icmp_eq G (tgt := 20) d_m_isPerson_7 (by decide) (mr_a hM2 lkR_1) ic_2 (fun c3 => ?_) (fun c3 => ?_)
  · rw [if_pos c3] at hF
    refine vj_iconst G (v := 1) d_m_isPerson_20 rfl ?_
    refine vj_goto G (tgt := 25) d_m_isPerson_21 (by decide) ?_
    cases hF
    exact vj_zret G0 (Or.inr rfl) d_m_isPerson_25
  · rw [if_neg c3] at hF
    refine vj_aload_n G (p9 := 0) d_m_isPerson_10 rfl rfl ?_
    refine gfR_m_25 G d_m_isPerson_11 ?_
    refine vj_iload_n G (p9 := 1) d_m_isPerson_14 rfl rfl ?_
    obtain ⟨c4, hF⟩ := ck_some hF
    refine vj_iald G (x := x1) lkR_1 (by decide) c4 d_m_isPerson_15 ?_
    refine vj_mr (fun hM5 => ?_)
    refine vj_iconst G (v := 3) d_m_isPerson_16 rfl ?_
    refine vj_icmp_ne G (tgt := 24) d_m_isPerson_17 (by decide) (mr_a hM5 lkR_1) ic_3 (fun c6 => ?_) (fun c6 => ?_)
    · rw [if_pos c6] at hF
      refine vj_iconst G (v := 0) d_m_isPerson_24 rfl ?_
      cases hF
      exact vj_zret G0 (Or.inl rfl) d_m_isPerson_25
    · rw [if_neg c6] at hF
      refine vj_iconst G (v := 1) d_m_isPerson_20 rfl ?_
      refine vj_goto G (tgt := 25) d_m_isPerson_21 (by decide) ?_
      cases hF
      exact vj_zret G0 (Or.inr rfl) d_m_isPerson_25
set_option maxHeartbeats 4000000 in
set_option maxRecDepth 100000 in
theorem wk_m_found_231 {w : Wd} {X : Cx} {r : Int} {M9 : Mm} (G0 : Gx LR w X "WhoRulesModel" b_m_found 7 1 27 (some .int)) (n : Nat) (k167 : Int → Int → Mm → Rr) (hk167 : ∀ (x3 x4 : Int) (hx3 : inR x3) (hx4 : inR x4) (M : Mm), k167 x3 x4 M = some (r, M9) → VJ LR w X 7 1 r M9 M [(0, .ref (wa w 0)), (3, .int (i32 x3)), (4, .int (i32 x4))] [] 167) (x4 s0 s1 : Int) (hx4 : inR x4) (hs0 : inR s0) (hs1 : inB s1) (M : Mm) (hF : f_m_found_231 n k167 x4 s0 s1 M = some (r, M9)) : VJ LR w X 7 1 r M9 M [(0, .ref (wa w 0)), (4, .int (i32 x4))] [.int (i32 s1), .int (i32 s0)] 231 := by
  have G := G0.1
  unfold f_m_found_231 at hF
  refine vj_iadd G d_m_found_231 ?_
  refine vj_istore_n G (lv2 := [(3, .int (i32 (w32 (s0 + s1)))), (0, .ref (wa w 0)), (4, .int (i32 x4))]) d_m_found_232 rfl (by decide) rfl ?_
  refine vj_iinc G (p9 := 2) (n := 1) (lv2 := [(4, .int (i32 (w32 (x4 + 1)))), (3, .int (i32 (w32 (s0 + s1)))), (0, .ref (wa w 0))]) d_m_found_233 rfl (by decide) rfl ?_
  refine vj_goto G (tgt := 167) d_m_found_236 (by decide) ?_
  refine vj_sub [2, 1, 0] rfl ?_
  exact hk167 (w32 (s0 + s1)) (w32 (x4 + 1)) (ir_w _) (ir_w _) _ hF
set_option maxHeartbeats 4000000 in
set_option maxRecDepth 100000 in
theorem wk_m_found_210 {w : Wd} {X : Cx} {r : Int} {M9 : Mm} (G0 : Gx LR w X "WhoRulesModel" b_m_found 7 1 27 (some .int)) (n : Nat) (k167 : Int → Int → Mm → Rr) (hk167 : ∀ (x3 x4 : Int) (hx3 : inR x3) (hx4 : inR x4) (M : Mm), k167 x3 x4 M = some (r, M9) → VJ LR w X 7 1 r M9 M [(0, .ref (wa w 0)), (3, .int (i32 x3)), (4, .int (i32 x4))] [] 167) (k182 : Int → Int → Int → Int → Mm → Rr) (hk182 : ∀ (x3 x4 x5 x6 : Int) (hx3 : inR x3) (hx4 : inR x4) (hx5 : inR x5) (hx6 : inR x6) (M : Mm), k182 x3 x4 x5 x6 M = some (r, M9) → VJ LR w X 7 1 r M9 M [(0, .ref (wa w 0)), (3, .int (i32 x3)), (4, .int (i32 x4)), (5, .int (i32 x5)), (6, .int (i32 x6))] [] 182) (x3 x4 x6 s0 s1 : Int) (hx3 : inR x3) (hx4 : inR x4) (hx6 : inR x6) (hs0 : inR s0) (hs1 : inB s1) (M : Mm) (hF : f_m_found_210 n k167 k182 x3 x4 x6 s0 s1 M = some (r, M9)) : VJ LR w X 7 1 r M9 M [(0, .ref (wa w 0)), (3, .int (i32 x3)), (4, .int (i32 x4)), (6, .int (i32 x6))] [.int (i32 s1), .int (i32 s0)] 210 := by
  have G := G0.1
  unfold f_m_found_210 at hF
  refine vj_iadd G d_m_found_210 ?_
  refine vj_istore G (lv2 := [(5, .int (i32 (w32 (s0 + s1)))), (0, .ref (wa w 0)), (3, .int (i32 x3)), (4, .int (i32 x4)), (6, .int (i32 x6))]) d_m_found_211 (by decide) rfl ?_
  refine vj_iinc G (p9 := 4) (n := 1) (lv2 := [(6, .int (i32 (w32 (x6 + 1)))), (5, .int (i32 (w32 (s0 + s1)))), (0, .ref (wa w 0)), (3, .int (i32 x3)), (4, .int (i32 x4))]) d_m_found_213 rfl (by decide) rfl ?_
  refine vj_goto G (tgt := 182) d_m_found_216 (by decide) ?_
  refine vj_sub [2, 3, 4, 1, 0] rfl ?_
  exact hk182 x3 x4 (w32 (s0 + s1)) (w32 (x6 + 1)) hx3 hx4 (ir_w _) (ir_w _) _ hF
set_option maxHeartbeats 4000000 in
set_option maxRecDepth 100000 in
theorem wk_m_found_182 {w : Wd} {X : Cx} {r : Int} {M9 : Mm} (G0 : Gx LR w X "WhoRulesModel" b_m_found 7 1 27 (some .int)) (n : Nat) (k167 : Int → Int → Mm → Rr) (hk167 : ∀ (x3 x4 : Int) (hx3 : inR x3) (hx4 : inR x4) (M : Mm), k167 x3 x4 M = some (r, M9) → VJ LR w X 7 1 r M9 M [(0, .ref (wa w 0)), (3, .int (i32 x3)), (4, .int (i32 x4))] [] 167) (k182 : Int → Int → Int → Int → Mm → Rr) (hk182 : ∀ (x3 x4 x5 x6 : Int) (hx3 : inR x3) (hx4 : inR x4) (hx5 : inR x5) (hx6 : inR x6) (M : Mm), k182 x3 x4 x5 x6 M = some (r, M9) → VJ LR w X 7 1 r M9 M [(0, .ref (wa w 0)), (3, .int (i32 x3)), (4, .int (i32 x4)), (5, .int (i32 x5)), (6, .int (i32 x6))] [] 182) (x3 x4 x5 x6 : Int) (hx3 : inR x3) (hx4 : inR x4) (hx5 : inR x5) (hx6 : inR x6) (M : Mm) (hF : f_m_found_182 n k167 k182 x3 x4 x5 x6 M = some (r, M9)) : VJ LR w X 7 1 r M9 M [(0, .ref (wa w 0)), (3, .int (i32 x3)), (4, .int (i32 x4)), (5, .int (i32 x5)), (6, .int (i32 x6))] [] 182 := by
  have G := G0.1
  unfold f_m_found_182 at hF
  refine vj_iload G (p9 := 4) d_m_found_182 rfl ?_
  refine vj_aload_n G (p9 := 0) d_m_found_184 rfl rfl ?_
  refine gfR_m_13 G d_m_found_185 ?_
  refine vj_mr (fun hM1 => ?_)
  refine vj_icmp_ge G (tgt := 219) d_m_found_188 (by decide) hx6 (mr_o hM1 lkR_0 flR_0_1) (fun c2 => ?_) (fun c2 => ?_)
  · rw [if_pos c2] at hF
    refine vj_iload_n G (p9 := 1) d_m_found_219 rfl rfl ?_
    refine vj_iload G (p9 := 3) d_m_found_220 rfl ?_
    refine vj_iconst G (v := 1) d_m_found_222 rfl ?_
    refine vj_icmp_le G (tgt := 230) d_m_found_223 (by decide) hx5 ic_1 (fun c3 => ?_) (fun c3 => ?_)
    · rw [if_pos c3] at hF
      refine vj_iconst G (v := 0) d_m_found_230 rfl ?_
      refine vj_sub [0, 2] rfl ?_
      exact wk_m_found_231 G0 n k167 hk167 x4 x3 0 hx4 hx3 (Or.inl rfl) _ hF
    · rw [if_neg c3] at hF
      refine vj_iconst G (v := 1) d_m_found_226 rfl ?_
      refine vj_goto G (tgt := 231) d_m_found_227 (by decide) ?_
      refine vj_sub [0, 2] rfl ?_
      exact wk_m_found_231 G0 n k167 hk167 x4 x3 1 hx4 hx3 (Or.inr rfl) _ hF
  · rw [if_neg c2] at hF
    refine vj_iload G (p9 := 3) d_m_found_191 rfl ?_
    refine vj_aload_n G (p9 := 0) d_m_found_193 rfl rfl ?_
    refine gfR_m_213 G d_m_found_194 ?_
    refine vj_iload G (p9 := 4) d_m_found_197 rfl ?_
    obtain ⟨c4, hF⟩ := ck_some hF
    refine vj_iald G (x := x6) lkR_42 (by decide) c4 d_m_found_199 ?_
    refine vj_mr (fun hM5 => ?_)
    refine vj_iload G (p9 := 2) d_m_found_200 rfl ?_
    refine vj_icmp_ne G (tgt := 209) d_m_found_202 (by decide) (mr_a hM5 lkR_42) hx4 (fun c6 => ?_) (fun c6 => ?_)
    · rw [if_pos c6] at hF
      refine vj_iconst G (v := 0) d_m_found_209 rfl ?_
      refine vj_sub [0, 1, 2, 4] rfl ?_
      exact wk_m_found_210 G0 n k167 hk167 k182 hk182 x3 x4 x6 x5 0 hx3 hx4 hx6 hx5 (Or.inl rfl) _ hF
    · rw [if_neg c6] at hF
      refine vj_iconst G (v := 1) d_m_found_205 rfl ?_
      refine vj_goto G (tgt := 210) d_m_found_206 (by decide) ?_
      refine vj_sub [0, 1, 2, 4] rfl ?_
      exact wk_m_found_210 G0 n k167 hk167 k182 hk182 x3 x4 x6 x5 1 hx3 hx4 hx6 hx5 (Or.inr rfl) _ hF
set_option maxHeartbeats 4000000 in
set_option maxRecDepth 100000 in
theorem wl_m_found_182 {w : Wd} {X : Cx} {r : Int} {M9 : Mm} (G0 : Gx LR w X "WhoRulesModel" b_m_found 7 1 27 (some .int)) (n : Nat) (k167 : Int → Int → Mm → Rr) (hk167 : ∀ (x3 x4 : Int) (hx3 : inR x3) (hx4 : inR x4) (M : Mm), k167 x3 x4 M = some (r, M9) → VJ LR w X 7 1 r M9 M [(0, .ref (wa w 0)), (3, .int (i32 x3)), (4, .int (i32 x4))] [] 167) : ∀ (f : Nat) (x3 x4 x5 x6 : Int) (hx3 : inR x3) (hx4 : inR x4) (hx5 : inR x5) (hx6 : inR x6) (M : Mm), lp_m_found_182 n k167 f x3 x4 x5 x6 M = some (r, M9) → VJ LR w X 7 1 r M9 M [(0, .ref (wa w 0)), (3, .int (i32 x3)), (4, .int (i32 x4)), (5, .int (i32 x5)), (6, .int (i32 x6))] [] 182 := by
  intro f
  induction f with
  | zero => intro x3 x4 x5 x6 hx3 hx4 hx5 hx6 M hF; cases hF
  | succ f ih => intro x3 x4 x5 x6 hx3 hx4 hx5 hx6 M hF; exact wk_m_found_182 G0 n k167 hk167 (lp_m_found_182 n k167 f) ih x3 x4 x5 x6 hx3 hx4 hx5 hx6 M hF
set_option maxHeartbeats 4000000 in
set_option maxRecDepth 100000 in
theorem wk_m_found_167 {w : Wd} {X : Cx} {r : Int} {M9 : Mm} (G0 : Gx LR w X "WhoRulesModel" b_m_found 7 1 27 (some .int)) (n : Nat) (k167 : Int → Int → Mm → Rr) (hk167 : ∀ (x3 x4 : Int) (hx3 : inR x3) (hx4 : inR x4) (M : Mm), k167 x3 x4 M = some (r, M9) → VJ LR w X 7 1 r M9 M [(0, .ref (wa w 0)), (3, .int (i32 x3)), (4, .int (i32 x4))] [] 167) (x3 x4 : Int) (hx3 : inR x3) (hx4 : inR x4) (M : Mm) (hF : f_m_found_167 n k167 x3 x4 M = some (r, M9)) : VJ LR w X 7 1 r M9 M [(0, .ref (wa w 0)), (3, .int (i32 x3)), (4, .int (i32 x4))] [] 167 := by
  have G := G0.1
  unfold f_m_found_167 at hF
  refine vj_iload G (p9 := 2) d_m_found_167 rfl ?_
  refine vj_aload_n G (p9 := 0) d_m_found_169 rfl rfl ?_
  refine gfR_m_13 G d_m_found_170 ?_
  refine vj_mr (fun hM1 => ?_)
  refine vj_icmp_ge G (tgt := 239) d_m_found_173 (by decide) hx4 (mr_o hM1 lkR_0 flR_0_1) (fun c2 => ?_) (fun c2 => ?_)
  · rw [if_pos c2] at hF
    refine vj_iload_n G (p9 := 1) d_m_found_239 rfl rfl ?_
    cases hF
    exact vj_iret G0 hx3 d_m_found_240
  · rw [if_neg c2] at hF
    refine vj_iconst G (v := 0) d_m_found_176 rfl ?_
    refine vj_istore G (lv2 := [(5, .int (i32 0)), (0, .ref (wa w 0)), (3, .int (i32 x3)), (4, .int (i32 x4))]) d_m_found_177 (by decide) rfl ?_
    refine vj_iconst G (v := 0) d_m_found_179 rfl ?_
    refine vj_istore G (lv2 := [(6, .int (i32 0)), (5, .int (i32 0)), (0, .ref (wa w 0)), (3, .int (i32 x3)), (4, .int (i32 x4))]) d_m_found_180 (by decide) rfl ?_
    refine vj_sub [2, 3, 4, 1, 0] rfl ?_
    exact wl_m_found_182 G0 n k167 hk167 n x3 x4 0 0 hx3 hx4 ic_0 ic_0 _ hF
set_option maxHeartbeats 4000000 in
set_option maxRecDepth 100000 in
theorem wl_m_found_167 {w : Wd} {X : Cx} {r : Int} {M9 : Mm} (G0 : Gx LR w X "WhoRulesModel" b_m_found 7 1 27 (some .int)) (n : Nat) : ∀ (f : Nat) (x3 x4 : Int) (hx3 : inR x3) (hx4 : inR x4) (M : Mm), lp_m_found_167 n f x3 x4 M = some (r, M9) → VJ LR w X 7 1 r M9 M [(0, .ref (wa w 0)), (3, .int (i32 x3)), (4, .int (i32 x4))] [] 167 := by
  intro f
  induction f with
  | zero => intro x3 x4 hx3 hx4 M hF; cases hF
  | succ f ih => intro x3 x4 hx3 hx4 M hF; exact wk_m_found_167 G0 n (lp_m_found_167 n f) ih x3 x4 hx3 hx4 M hF
set_option maxHeartbeats 4000000 in
set_option maxRecDepth 100000 in
theorem wk_m_found_147 {w : Wd} {X : Cx} {r : Int} {M9 : Mm} (G0 : Gx LR w X "WhoRulesModel" b_m_found 7 1 27 (some .int)) (n : Nat) (k39 : Int → Int → Mm → Rr) (hk39 : ∀ (x1 x2 : Int) (hx1 : inR x1) (hx2 : inB x2) (M : Mm), k39 x1 x2 M = some (r, M9) → VJ LR w X 7 1 r M9 M [(0, .ref (wa w 0)), (1, .int (i32 x1)), (2, .int (i32 x2))] [] 39) (k47 : Int → Int → Int → Mm → Rr) (hk47 : ∀ (x1 x2 x3 : Int) (hx1 : inR x1) (hx2 : inB x2) (hx3 : inR x3) (M : Mm), k47 x1 x2 x3 M = some (r, M9) → VJ LR w X 7 1 r M9 M [(0, .ref (wa w 0)), (1, .int (i32 x1)), (2, .int (i32 x2)), (3, .int (i32 x3))] [] 47) (k58 : Int → Int → Int → Int → Mm → Rr) (hk58 : ∀ (x1 x2 x3 x4 : Int) (hx1 : inR x1) (hx2 : inB x2) (hx3 : inR x3) (hx4 : inR x4) (M : Mm), k58 x1 x2 x3 x4 M = some (r, M9) → VJ LR w X 7 1 r M9 M [(0, .ref (wa w 0)), (1, .int (i32 x1)), (2, .int (i32 x2)), (3, .int (i32 x3)), (4, .int (i32 x4))] [] 58) (x1 x2 x3 x4 : Int) (hx1 : inR x1) (hx2 : inB x2) (hx3 : inR x3) (hx4 : inR x4) (M : Mm) (hF : f_m_found_147 n k39 k47 k58 x1 x2 x3 x4 M = some (r, M9)) : VJ LR w X 7 1 r M9 M [(0, .ref (wa w 0)), (1, .int (i32 x1)), (2, .int (i32 x2)), (3, .int (i32 x3)), (4, .int (i32 x4))] [] 147 := by
  have G := G0.1
  unfold f_m_found_147 at hF
  refine vj_iinc G (p9 := 4) (n := 1) (lv2 := [(4, .int (i32 (w32 (x4 + 1)))), (0, .ref (wa w 0)), (1, .int (i32 x1)), (2, .int (i32 x2)), (3, .int (i32 x3))]) d_m_found_147 rfl (by decide) rfl ?_
  refine vj_goto G (tgt := 58) d_m_found_150 (by decide) ?_
  refine vj_sub [1, 2, 3, 4, 0] rfl ?_
  exact hk58 x1 x2 x3 (w32 (x4 + 1)) hx1 hx2 hx3 (ir_w _) _ hF
set_option maxHeartbeats 4000000 in
set_option maxRecDepth 100000 in
theorem wk_m_found_58 {w : Wd} {X : Cx} {r : Int} {M9 : Mm} (G0 : Gx LR w X "WhoRulesModel" b_m_found 7 1 27 (some .int)) (n : Nat) (k39 : Int → Int → Mm → Rr) (hk39 : ∀ (x1 x2 : Int) (hx1 : inR x1) (hx2 : inB x2) (M : Mm), k39 x1 x2 M = some (r, M9) → VJ LR w X 7 1 r M9 M [(0, .ref (wa w 0)), (1, .int (i32 x1)), (2, .int (i32 x2))] [] 39) (k47 : Int → Int → Int → Mm → Rr) (hk47 : ∀ (x1 x2 x3 : Int) (hx1 : inR x1) (hx2 : inB x2) (hx3 : inR x3) (M : Mm), k47 x1 x2 x3 M = some (r, M9) → VJ LR w X 7 1 r M9 M [(0, .ref (wa w 0)), (1, .int (i32 x1)), (2, .int (i32 x2)), (3, .int (i32 x3))] [] 47) (k58 : Int → Int → Int → Int → Mm → Rr) (hk58 : ∀ (x1 x2 x3 x4 : Int) (hx1 : inR x1) (hx2 : inB x2) (hx3 : inR x3) (hx4 : inR x4) (M : Mm), k58 x1 x2 x3 x4 M = some (r, M9) → VJ LR w X 7 1 r M9 M [(0, .ref (wa w 0)), (1, .int (i32 x1)), (2, .int (i32 x2)), (3, .int (i32 x3)), (4, .int (i32 x4))] [] 58) (x1 x2 x3 x4 : Int) (hx1 : inR x1) (hx2 : inB x2) (hx3 : inR x3) (hx4 : inR x4) (M : Mm) (hF : f_m_found_58 n k39 k47 k58 x1 x2 x3 x4 M = some (r, M9)) : VJ LR w X 7 1 r M9 M [(0, .ref (wa w 0)), (1, .int (i32 x1)), (2, .int (i32 x2)), (3, .int (i32 x3)), (4, .int (i32 x4))] [] 58 := by
  have G := G0.1
  unfold f_m_found_58 at hF
  refine vj_iload G (p9 := 4) d_m_found_58 rfl ?_
  refine vj_aload_n G (p9 := 0) d_m_found_60 rfl rfl ?_
  refine gfR_m_13 G d_m_found_61 ?_
  refine vj_mr (fun hM1 => ?_)
  refine vj_icmp_ge G (tgt := 153) d_m_found_64 (by decide) hx4 (mr_o hM1 lkR_0 flR_0_1) (fun c2 => ?_) (fun c2 => ?_)
  · rw [if_pos c2] at hF
    refine vj_iinc G (p9 := 3) (n := 1) (lv2 := [(3, .int (i32 (w32 (x3 + 1)))), (0, .ref (wa w 0)), (1, .int (i32 x1)), (2, .int (i32 x2)), (4, .int (i32 x4))]) d_m_found_153 rfl (by decide) rfl ?_
    refine vj_goto G (tgt := 47) d_m_found_156 (by decide) ?_
    refine vj_sub [1, 2, 3, 0] rfl ?_
    exact hk47 x1 x2 (w32 (x3 + 1)) hx1 hx2 (ir_w _) _ hF
  · rw [if_neg c2] at hF
    refine vj_iload_n G (p9 := 3) d_m_found_67 rfl rfl ?_
    refine vj_iload G (p9 := 4) d_m_found_68 rfl ?_
    refine vj_icmp_eq G (tgt := 147) d_m_found_70 (by decide) hx3 hx4 (fun c3 => ?_) (fun c3 => ?_)
    · rw [if_pos c3] at hF
      exact wk_m_found_147 G0 n k39 hk39 k47 hk47 k58 hk58 x1 x2 x3 x4 hx1 hx2 hx3 hx4 _ hF
    · rw [if_neg c3] at hF
      refine vj_aload_n G (p9 := 0) d_m_found_73 rfl rfl ?_
      refine vj_iload_n G (p9 := 3) d_m_found_74 rfl rfl ?_
      obtain ⟨r4, M4, e4, hF⟩ := bnd_some hF
      refine vj_callV3 G (ct_m_isPerson (gx_ij G) n x3 hx3 e4) lkR_0 clR_0 rfl q_1839 cq_m_isPerson rfl (by decide) (by decide) (Nat.le_of_ble_eq_true rfl) d_m_found_75 rfl (fun hr4 => ?_)
      refine vj_if_eq G (tgt := 147) d_m_found_78 (by decide) (ir_b hr4) (fun c5 => ?_) (fun c5 => ?_)
      · rw [if_pos c5] at hF
        exact wk_m_found_147 G0 n k39 hk39 k47 hk47 k58 hk58 x1 x2 x3 x4 hx1 hx2 hx3 hx4 _ hF
      · rw [if_neg c5] at hF
        refine vj_aload_n G (p9 := 0) d_m_found_81 rfl rfl ?_
        refine vj_iload G (p9 := 4) d_m_found_82 rfl ?_
        obtain ⟨r6, M6, e6, hF⟩ := bnd_some hF
        refine vj_callV3 G (ct_m_isPerson (gx_ij G) n x4 hx4 e6) lkR_0 clR_0 rfl q_1839 cq_m_isPerson rfl (by decide) (by decide) (Nat.le_of_ble_eq_true rfl) d_m_found_84 rfl (fun hr6 => ?_)
        refine vj_if_eq G (tgt := 147) d_m_found_87 (by decide) (ir_b hr6) (fun c7 => ?_) (fun c7 => ?_)
        · rw [if_pos c7] at hF
          exact wk_m_found_147 G0 n k39 hk39 k47 hk47 k58 hk58 x1 x2 x3 x4 hx1 hx2 hx3 hx4 _ hF
        · rw [if_neg c7] at hF
          refine vj_aload_n G (p9 := 0) d_m_found_90 rfl rfl ?_
          refine gfR_m_213 G d_m_found_91 ?_
          refine vj_iload G (p9 := 4) d_m_found_94 rfl ?_
          obtain ⟨c8, hF⟩ := ck_some hF
          refine vj_iald G (x := x4) lkR_42 (by decide) c8 d_m_found_96 ?_
          refine vj_mr (fun hM9 => ?_)
          refine vj_aload_n G (p9 := 0) d_m_found_97 rfl rfl ?_
          refine gfR_m_213 G d_m_found_98 ?_
          refine vj_iload_n G (p9 := 3) d_m_found_101 rfl rfl ?_
          obtain ⟨c10, hF⟩ := ck_some hF
          refine vj_iald G (x := x3) lkR_42 (by decide) c10 d_m_found_102 ?_
          refine vj_icmp_le G (tgt := 147) d_m_found_103 (by decide) (mr_a hM9 lkR_42) (mr_a hM9 lkR_42) (fun c11 => ?_) (fun c11 => ?_)
          · rw [if_pos c11] at hF
            exact wk_m_found_147 G0 n k39 hk39 k47 hk47 k58 hk58 x1 x2 x3 x4 hx1 hx2 hx3 hx4 _ hF
          · rw [if_neg c11] at hF
            refine vj_aload_n G (p9 := 0) d_m_found_106 rfl rfl ?_
            refine vj_iload_n G (p9 := 3) d_m_found_107 rfl rfl ?_
            refine vj_iload G (p9 := 4) d_m_found_108 rfl ?_
            refine vj_iconst G (v := 1) d_m_found_110 rfl ?_
            obtain ⟨r12, M12, e12, hF⟩ := bnd_some hF
            refine vj_callV1 G (ct_m_times (gx_ij G) n x3 x4 1 hx3 hx4 (Or.inr rfl) e12) lkR_0 clR_0 rfl q_1831 cq_m_times rfl (by decide) (by decide) (Nat.le_of_ble_eq_true rfl) d_m_found_111 rfl (fun hr12 => ?_)
            refine vj_iload_n G (p9 := 1) d_m_found_114 rfl rfl ?_
            refine vj_icmp_lt G (tgt := 147) d_m_found_115 (by decide) hr12 hx1 (fun c13 => ?_) (fun c13 => ?_)
            · rw [if_pos c13] at hF
              exact wk_m_found_147 G0 n k39 hk39 k47 hk47 k58 hk58 x1 x2 x3 x4 hx1 hx2 hx3 hx4 _ hF
            · rw [if_neg c13] at hF
              refine vj_aload_n G (p9 := 0) d_m_found_118 rfl rfl ?_
              refine vj_iload_n G (p9 := 3) d_m_found_119 rfl rfl ?_
              refine vj_iload G (p9 := 4) d_m_found_120 rfl ?_
              refine vj_iconst G (v := 0) d_m_found_122 rfl ?_
              obtain ⟨r14, M14, e14, hF⟩ := bnd_some hF
              refine vj_callV1 G (ct_m_times (gx_ij G) n x3 x4 0 hx3 hx4 (Or.inl rfl) e14) lkR_0 clR_0 rfl q_1831 cq_m_times rfl (by decide) (by decide) (Nat.le_of_ble_eq_true rfl) d_m_found_123 rfl (fun hr14 => ?_)
              refine vj_if_le G (tgt := 132) d_m_found_126 (by decide) hr14 (fun c15 => ?_) (fun c15 => ?_)
              · rw [if_pos c15] at hF
                refine vj_aload_n G (p9 := 0) d_m_found_132 rfl rfl ?_
                refine gfR_m_213 G d_m_found_133 ?_
                refine vj_iload G (p9 := 4) d_m_found_136 rfl ?_
                refine vj_aload_n G (p9 := 0) d_m_found_138 rfl rfl ?_
                refine gfR_m_213 G d_m_found_139 ?_
                refine vj_iload_n G (p9 := 3) d_m_found_142 rfl rfl ?_
                obtain ⟨c16, hF⟩ := ck_some hF
                refine vj_iald G (x := x3) lkR_42 (by decide) c16 d_m_found_143 ?_
                refine vj_mr (fun hM17 => ?_)
                obtain ⟨c18, hF⟩ := ck_some hF
                refine vj_iast G (x := x4) lkR_42 (by decide) (by decide) (by decide) c18 (mr_a hM17 lkR_42) d_m_found_144 ?_
                refine vj_iconst G (v := 1) d_m_found_145 rfl ?_
                refine vj_istore_n G (lv2 := [(2, .int (i32 1)), (0, .ref (wa w 0)), (1, .int (i32 x1)), (3, .int (i32 x3)), (4, .int (i32 x4))]) d_m_found_146 rfl (by decide) rfl ?_
                refine vj_sub [1, 2, 0, 3, 4] rfl ?_
                exact wk_m_found_147 G0 n k39 hk39 k47 hk47 k58 hk58 x1 1 x3 x4 hx1 (Or.inr rfl) hx3 hx4 _ hF
              · rw [if_neg c15] at hF
                refine vj_goto G (tgt := 147) d_m_found_129 (by decide) ?_
                exact wk_m_found_147 G0 n k39 hk39 k47 hk47 k58 hk58 x1 x2 x3 x4 hx1 hx2 hx3 hx4 _ hF
set_option maxHeartbeats 4000000 in
set_option maxRecDepth 100000 in
theorem wl_m_found_58 {w : Wd} {X : Cx} {r : Int} {M9 : Mm} (G0 : Gx LR w X "WhoRulesModel" b_m_found 7 1 27 (some .int)) (n : Nat) (k39 : Int → Int → Mm → Rr) (hk39 : ∀ (x1 x2 : Int) (hx1 : inR x1) (hx2 : inB x2) (M : Mm), k39 x1 x2 M = some (r, M9) → VJ LR w X 7 1 r M9 M [(0, .ref (wa w 0)), (1, .int (i32 x1)), (2, .int (i32 x2))] [] 39) (k47 : Int → Int → Int → Mm → Rr) (hk47 : ∀ (x1 x2 x3 : Int) (hx1 : inR x1) (hx2 : inB x2) (hx3 : inR x3) (M : Mm), k47 x1 x2 x3 M = some (r, M9) → VJ LR w X 7 1 r M9 M [(0, .ref (wa w 0)), (1, .int (i32 x1)), (2, .int (i32 x2)), (3, .int (i32 x3))] [] 47) : ∀ (f : Nat) (x1 x2 x3 x4 : Int) (hx1 : inR x1) (hx2 : inB x2) (hx3 : inR x3) (hx4 : inR x4) (M : Mm), lp_m_found_58 n k39 k47 f x1 x2 x3 x4 M = some (r, M9) → VJ LR w X 7 1 r M9 M [(0, .ref (wa w 0)), (1, .int (i32 x1)), (2, .int (i32 x2)), (3, .int (i32 x3)), (4, .int (i32 x4))] [] 58 := by
  intro f
  induction f with
  | zero => intro x1 x2 x3 x4 hx1 hx2 hx3 hx4 M hF; cases hF
  | succ f ih => intro x1 x2 x3 x4 hx1 hx2 hx3 hx4 M hF; exact wk_m_found_58 G0 n k39 hk39 k47 hk47 (lp_m_found_58 n k39 k47 f) ih x1 x2 x3 x4 hx1 hx2 hx3 hx4 M hF
set_option maxHeartbeats 4000000 in
set_option maxRecDepth 100000 in
theorem wk_m_found_47 {w : Wd} {X : Cx} {r : Int} {M9 : Mm} (G0 : Gx LR w X "WhoRulesModel" b_m_found 7 1 27 (some .int)) (n : Nat) (k39 : Int → Int → Mm → Rr) (hk39 : ∀ (x1 x2 : Int) (hx1 : inR x1) (hx2 : inB x2) (M : Mm), k39 x1 x2 M = some (r, M9) → VJ LR w X 7 1 r M9 M [(0, .ref (wa w 0)), (1, .int (i32 x1)), (2, .int (i32 x2))] [] 39) (k47 : Int → Int → Int → Mm → Rr) (hk47 : ∀ (x1 x2 x3 : Int) (hx1 : inR x1) (hx2 : inB x2) (hx3 : inR x3) (M : Mm), k47 x1 x2 x3 M = some (r, M9) → VJ LR w X 7 1 r M9 M [(0, .ref (wa w 0)), (1, .int (i32 x1)), (2, .int (i32 x2)), (3, .int (i32 x3))] [] 47) (x1 x2 x3 : Int) (hx1 : inR x1) (hx2 : inB x2) (hx3 : inR x3) (M : Mm) (hF : f_m_found_47 n k39 k47 x1 x2 x3 M = some (r, M9)) : VJ LR w X 7 1 r M9 M [(0, .ref (wa w 0)), (1, .int (i32 x1)), (2, .int (i32 x2)), (3, .int (i32 x3))] [] 47 := by
  have G := G0.1
  unfold f_m_found_47 at hF
  refine vj_iload_n G (p9 := 3) d_m_found_47 rfl rfl ?_
  refine vj_aload_n G (p9 := 0) d_m_found_48 rfl rfl ?_
  refine gfR_m_13 G d_m_found_49 ?_
  refine vj_mr (fun hM1 => ?_)
  refine vj_icmp_ge G (tgt := 159) d_m_found_52 (by decide) hx3 (mr_o hM1 lkR_0 flR_0_1) (fun c2 => ?_) (fun c2 => ?_)
  · rw [if_pos c2] at hF
    refine vj_goto G (tgt := 39) d_m_found_159 (by decide) ?_
    refine vj_sub [0, 1, 2] rfl ?_
    exact hk39 x1 x2 hx1 hx2 _ hF
  · rw [if_neg c2] at hF
    refine vj_iconst G (v := 0) d_m_found_55 rfl ?_
    refine vj_istore G (lv2 := [(4, .int (i32 0)), (0, .ref (wa w 0)), (1, .int (i32 x1)), (2, .int (i32 x2)), (3, .int (i32 x3))]) d_m_found_56 (by decide) rfl ?_
    refine vj_sub [1, 2, 3, 4, 0] rfl ?_
    exact wl_m_found_58 G0 n k39 hk39 k47 hk47 n x1 x2 x3 0 hx1 hx2 hx3 ic_0 _ hF
set_option maxHeartbeats 4000000 in
set_option maxRecDepth 100000 in
theorem wl_m_found_47 {w : Wd} {X : Cx} {r : Int} {M9 : Mm} (G0 : Gx LR w X "WhoRulesModel" b_m_found 7 1 27 (some .int)) (n : Nat) (k39 : Int → Int → Mm → Rr) (hk39 : ∀ (x1 x2 : Int) (hx1 : inR x1) (hx2 : inB x2) (M : Mm), k39 x1 x2 M = some (r, M9) → VJ LR w X 7 1 r M9 M [(0, .ref (wa w 0)), (1, .int (i32 x1)), (2, .int (i32 x2))] [] 39) : ∀ (f : Nat) (x1 x2 x3 : Int) (hx1 : inR x1) (hx2 : inB x2) (hx3 : inR x3) (M : Mm), lp_m_found_47 n k39 f x1 x2 x3 M = some (r, M9) → VJ LR w X 7 1 r M9 M [(0, .ref (wa w 0)), (1, .int (i32 x1)), (2, .int (i32 x2)), (3, .int (i32 x3))] [] 47 := by
  intro f
  induction f with
  | zero => intro x1 x2 x3 hx1 hx2 hx3 M hF; cases hF
  | succ f ih => intro x1 x2 x3 hx1 hx2 hx3 M hF; exact wk_m_found_47 G0 n k39 hk39 (lp_m_found_47 n k39 f) ih x1 x2 x3 hx1 hx2 hx3 M hF
set_option maxHeartbeats 4000000 in
set_option maxRecDepth 100000 in
theorem wk_m_found_39 {w : Wd} {X : Cx} {r : Int} {M9 : Mm} (G0 : Gx LR w X "WhoRulesModel" b_m_found 7 1 27 (some .int)) (n : Nat) (k39 : Int → Int → Mm → Rr) (hk39 : ∀ (x1 x2 : Int) (hx1 : inR x1) (hx2 : inB x2) (M : Mm), k39 x1 x2 M = some (r, M9) → VJ LR w X 7 1 r M9 M [(0, .ref (wa w 0)), (1, .int (i32 x1)), (2, .int (i32 x2))] [] 39) (x1 x2 : Int) (hx1 : inR x1) (hx2 : inB x2) (M : Mm) (hF : f_m_found_39 n k39 x1 x2 M = some (r, M9)) : VJ LR w X 7 1 r M9 M [(0, .ref (wa w 0)), (1, .int (i32 x1)), (2, .int (i32 x2))] [] 39 := by
  have G := G0.1
  unfold f_m_found_39 at hF
  refine vj_iload_n G (p9 := 2) d_m_found_39 rfl rfl ?_
  refine vj_if_eq G (tgt := 162) d_m_found_40 (by decide) (ir_b hx2) (fun c1 => ?_) (fun c1 => ?_)
  · rw [if_pos c1] at hF
    refine vj_iconst G (v := 0) d_m_found_162 rfl ?_
    refine vj_istore_n G (lv2 := [(3, .int (i32 0)), (0, .ref (wa w 0)), (1, .int (i32 x1)), (2, .int (i32 x2))]) d_m_found_163 rfl (by decide) rfl ?_
    refine vj_iconst G (v := 0) d_m_found_164 rfl ?_
    refine vj_istore G (lv2 := [(4, .int (i32 0)), (3, .int (i32 0)), (0, .ref (wa w 0)), (1, .int (i32 x1)), (2, .int (i32 x2))]) d_m_found_165 (by decide) rfl ?_
    refine vj_sub [2, 1, 0] rfl ?_
    exact wl_m_found_167 G0 n  n 0 0 ic_0 ic_0 _ hF
  · rw [if_neg c1] at hF
    refine vj_iconst G (v := 0) d_m_found_43 rfl ?_
    refine vj_istore_n G (lv2 := [(2, .int (i32 0)), (0, .ref (wa w 0)), (1, .int (i32 x1))]) d_m_found_44 rfl (by decide) rfl ?_
    refine vj_iconst G (v := 0) d_m_found_45 rfl ?_
    refine vj_istore_n G (lv2 := [(3, .int (i32 0)), (2, .int (i32 0)), (0, .ref (wa w 0)), (1, .int (i32 x1))]) d_m_found_46 rfl (by decide) rfl ?_
    refine vj_sub [2, 3, 1, 0] rfl ?_
    exact wl_m_found_47 G0 n k39 hk39 n x1 0 0 hx1 (Or.inl rfl) ic_0 _ hF
set_option maxHeartbeats 4000000 in
set_option maxRecDepth 100000 in
theorem wl_m_found_39 {w : Wd} {X : Cx} {r : Int} {M9 : Mm} (G0 : Gx LR w X "WhoRulesModel" b_m_found 7 1 27 (some .int)) (n : Nat) : ∀ (f : Nat) (x1 x2 : Int) (hx1 : inR x1) (hx2 : inB x2) (M : Mm), lp_m_found_39 n f x1 x2 M = some (r, M9) → VJ LR w X 7 1 r M9 M [(0, .ref (wa w 0)), (1, .int (i32 x1)), (2, .int (i32 x2))] [] 39 := by
  intro f
  induction f with
  | zero => intro x1 x2 hx1 hx2 M hF; cases hF
  | succ f ih => intro x1 x2 hx1 hx2 M hF; exact wk_m_found_39 G0 n (lp_m_found_39 n f) ih x1 x2 hx1 hx2 M hF
set_option maxHeartbeats 4000000 in
set_option maxRecDepth 100000 in
theorem wk_m_found_16 {w : Wd} {X : Cx} {r : Int} {M9 : Mm} (G0 : Gx LR w X "WhoRulesModel" b_m_found 7 1 27 (some .int)) (n : Nat) (k16 : Int → Int → Mm → Rr) (hk16 : ∀ (x1 x2 : Int) (hx1 : inR x1) (hx2 : inR x2) (M : Mm), k16 x1 x2 M = some (r, M9) → VJ LR w X 7 1 r M9 M [(0, .ref (wa w 0)), (1, .int (i32 x1)), (2, .int (i32 x2))] [] 16) (x1 x2 : Int) (hx1 : inR x1) (hx2 : inR x2) (M : Mm) (hF : f_m_found_16 n k16 x1 x2 M = some (r, M9)) : VJ LR w X 7 1 r M9 M [(0, .ref (wa w 0)), (1, .int (i32 x1)), (2, .int (i32 x2))] [] 16 := by
  have G := G0.1
  unfold f_m_found_16 at hF
  refine vj_iload_n G (p9 := 2) d_m_found_16 rfl rfl ?_
  refine vj_aload_n G (p9 := 0) d_m_found_17 rfl rfl ?_
  refine gfR_m_13 G d_m_found_18 ?_
  refine vj_mr (fun hM1 => ?_)
  refine vj_icmp_ge G (tgt := 37) d_m_found_21 (by decide) hx2 (mr_o hM1 lkR_0 flR_0_1) (fun c2 => ?_) (fun c2 => ?_)
  · rw [if_pos c2] at hF
    refine vj_iconst G (v := 1) d_m_found_37 rfl ?_
    refine vj_istore_n G (lv2 := [(2, .int (i32 1)), (0, .ref (wa w 0)), (1, .int (i32 x1))]) d_m_found_38 rfl (by decide) rfl ?_
    refine vj_sub [1, 2, 0] rfl ?_
    exact wl_m_found_39 G0 n  n x1 1 hx1 (Or.inr rfl) _ hF
  · rw [if_neg c2] at hF
    refine vj_aload_n G (p9 := 0) d_m_found_24 rfl rfl ?_
    refine gfR_m_213 G d_m_found_25 ?_
    refine vj_iload_n G (p9 := 2) d_m_found_28 rfl rfl ?_
    refine vj_iload_n G (p9 := 2) d_m_found_29 rfl rfl ?_
    obtain ⟨c3, hF⟩ := ck_some hF
    refine vj_iast G (x := x2) lkR_42 (by decide) (by decide) (by decide) c3 hx2 d_m_found_30 ?_
    refine vj_iinc G (p9 := 2) (n := 1) (lv2 := [(2, .int (i32 (w32 (x2 + 1)))), (0, .ref (wa w 0)), (1, .int (i32 x1))]) d_m_found_31 rfl (by decide) rfl ?_
    refine vj_goto G (tgt := 16) d_m_found_34 (by decide) ?_
    refine vj_sub [1, 2, 0] rfl ?_
    exact hk16 x1 (w32 (x2 + 1)) hx1 (ir_w _) _ hF
set_option maxHeartbeats 4000000 in
set_option maxRecDepth 100000 in
theorem wl_m_found_16 {w : Wd} {X : Cx} {r : Int} {M9 : Mm} (G0 : Gx LR w X "WhoRulesModel" b_m_found 7 1 27 (some .int)) (n : Nat) : ∀ (f : Nat) (x1 x2 : Int) (hx1 : inR x1) (hx2 : inR x2) (M : Mm), lp_m_found_16 n f x1 x2 M = some (r, M9) → VJ LR w X 7 1 r M9 M [(0, .ref (wa w 0)), (1, .int (i32 x1)), (2, .int (i32 x2))] [] 16 := by
  intro f
  induction f with
  | zero => intro x1 x2 hx1 hx2 M hF; cases hF
  | succ f ih => intro x1 x2 hx1 hx2 M hF; exact wk_m_found_16 G0 n (lp_m_found_16 n f) ih x1 x2 hx1 hx2 M hF
set_option maxHeartbeats 4000000 in
set_option maxRecDepth 100000 in
theorem ct_m_found {w : Wd} (hij : ij LR w) (n : Nat) (x1 : Int) (hx1 : inR x1) {M : Mm} {r : Int} {M9 : Mm} (hF : f_m_found n x1 M = some (r, M9)) : Ct LR w y_m_found b_m_found 7 (some .int) 1 27 1 [.ref (wa w 0), .int (i32 x1)] M r M9 := by
  refine Ct.of hij KstR (by decide +kernel) (Nat.le_of_ble_eq_true rfl) (fun X G0 => ?_)
  have G := G0.1
  show VJ LR w X 7 1 r M9 M [(0, .ref (wa w 0)), (1, .int (i32 x1))] [] 0
  unfold f_m_found at hF
  refine vj_aload_n G (p9 := 0) d_m_found_0 rfl rfl ?_
  refine vj_iload_n G (p9 := 1) d_m_found_1 rfl rfl ?_
  refine vj_iconst G (v := 1) d_m_found_2 rfl ?_
  refine vj_bipush G (v := 30) d_m_found_3 rfl ?_
  obtain ⟨r1, M1, e1, hF⟩ := bnd_some hF
  refine vj_callV3 G (ct_m_in (gx_ij G) n x1 1 30 hx1 ic_1 ic_30 e1) lkR_0 clR_0 rfl q_1543 cq_m_in rfl (by decide) (by decide) (Nat.le_of_ble_eq_true rfl) d_m_found_5 rfl (fun hr1 => ?_)
  refine vj_if_ne G (tgt := 14) d_m_found_8 (by decide) (ir_b hr1) (fun c2 => ?_) (fun c2 => ?_)
  · rw [if_pos c2] at hF
    refine vj_iconst G (v := 0) d_m_found_14 rfl ?_
    refine vj_istore_n G (lv2 := [(2, .int (i32 0)), (0, .ref (wa w 0)), (1, .int (i32 x1))]) d_m_found_15 rfl (by decide) rfl ?_
    refine vj_sub [1, 2, 0] rfl ?_
    exact wl_m_found_16 G0 n  n x1 0 hx1 ic_0 _ hF
  · rw [if_neg c2] at hF
    refine vj_bipush G (v := (-2)) d_m_found_11 rfl ?_
    cases hF
    exact vj_iret G0 ic_m2 d_m_found_13
set_option maxHeartbeats 4000000 in
set_option maxRecDepth 100000 in
theorem wk_m_findInto_86 {w : Wd} {X : Cx} {r : Int} {M9 : Mm} (G0 : Gx LR w X "WhoRulesModel" b_m_findInto 2 0 0 none) (n : Nat) (k23 : Int → Mm → Rr) (hk23 : ∀ (x1 : Int) (hx1 : inR x1) (M : Mm), k23 x1 M = some (r, M9) → VJ LR w X 2 0 r M9 M [(0, .ref (wa w 0)), (1, .int (i32 x1))] [] 23) (x1 : Int) (hx1 : inR x1) (M : Mm) (hF : f_m_findInto_86 n k23 x1 M = some (r, M9)) : VJ LR w X 2 0 r M9 M [(0, .ref (wa w 0)), (1, .int (i32 x1))] [] 86 := by
  have G := G0.1
  unfold f_m_findInto_86 at hF
  refine vj_iinc G (p9 := 1) (n := 1) (lv2 := [(1, .int (i32 (w32 (x1 + 1)))), (0, .ref (wa w 0))]) d_m_findInto_86 rfl (by decide) rfl ?_
  refine vj_goto G (tgt := 23) d_m_findInto_89 (by decide) ?_
  refine vj_sub [1, 0] rfl ?_
  exact hk23 (w32 (x1 + 1)) (ir_w _) _ hF
set_option maxHeartbeats 4000000 in
set_option maxRecDepth 100000 in
theorem wk_m_findInto_23 {w : Wd} {X : Cx} {r : Int} {M9 : Mm} (G0 : Gx LR w X "WhoRulesModel" b_m_findInto 2 0 0 none) (n : Nat) (k23 : Int → Mm → Rr) (hk23 : ∀ (x1 : Int) (hx1 : inR x1) (M : Mm), k23 x1 M = some (r, M9) → VJ LR w X 2 0 r M9 M [(0, .ref (wa w 0)), (1, .int (i32 x1))] [] 23) (x1 : Int) (hx1 : inR x1) (M : Mm) (hF : f_m_findInto_23 n k23 x1 M = some (r, M9)) : VJ LR w X 2 0 r M9 M [(0, .ref (wa w 0)), (1, .int (i32 x1))] [] 23 := by
  have G := G0.1
  unfold f_m_findInto_23 at hF
  refine vj_iload_n G (p9 := 1) d_m_findInto_23 rfl rfl ?_
  refine vj_aload_n G (p9 := 0) d_m_findInto_24 rfl rfl ?_
  refine gfR_m_19 G d_m_findInto_25 ?_
  refine vj_mr (fun hM1 => ?_)
  refine vj_icmp_ge G (tgt := 92) d_m_findInto_28 (by decide) hx1 (mr_o hM1 lkR_0 flR_0_3) (fun c2 => ?_) (fun c2 => ?_)
  · rw [if_pos c2] at hF
    cases hF
    exact vj_vret G0 d_m_findInto_92
  · rw [if_neg c2] at hF
    refine vj_aload_n G (p9 := 0) d_m_findInto_31 rfl rfl ?_
    refine gfR_m_38 G d_m_findInto_32 ?_
    refine vj_iload_n G (p9 := 1) d_m_findInto_35 rfl rfl ?_
    obtain ⟨c3, hF⟩ := ck_some hF
    refine vj_iald G (x := x1) lkR_5 (by decide) c3 d_m_findInto_36 ?_
    refine vj_mr (fun hM4 => ?_)
    refine vj_if_le G (tgt := 86) d_m_findInto_37 (by decide) (mr_a hM4 lkR_5) (fun c5 => ?_) (fun c5 => ?_)
    · rw [if_pos c5] at hF
      exact wk_m_findInto_86 G0 n k23 hk23 x1 hx1 _ hF
    · rw [if_neg c5] at hF
      refine vj_aload_n G (p9 := 0) d_m_findInto_40 rfl rfl ?_
      refine gfR_m_130 G d_m_findInto_41 ?_
      refine vj_iload_n G (p9 := 1) d_m_findInto_44 rfl rfl ?_
      obtain ⟨c6, hF⟩ := ck_some hF
      refine vj_iald G (x := x1) lkR_22 (by decide) c6 d_m_findInto_45 ?_
      refine vj_mr (fun hM7 => ?_)
      refine vj_if_lt G (tgt := 86) d_m_findInto_46 (by decide) (mr_a hM7 lkR_22) (fun c8 => ?_) (fun c8 => ?_)
      · rw [if_pos c8] at hF
        exact wk_m_findInto_86 G0 n k23 hk23 x1 hx1 _ hF
      · rw [if_neg c8] at hF
        refine vj_aload_n G (p9 := 0) d_m_findInto_49 rfl rfl ?_
        refine gfR_m_25 G d_m_findInto_50 ?_
        refine vj_aload_n G (p9 := 0) d_m_findInto_53 rfl rfl ?_
        refine gfR_m_130 G d_m_findInto_54 ?_
        refine vj_iload_n G (p9 := 1) d_m_findInto_57 rfl rfl ?_
        obtain ⟨c9, hF⟩ := ck_some hF
        refine vj_iald G (x := x1) lkR_22 (by decide) c9 d_m_findInto_58 ?_
        refine vj_mr (fun hM10 => ?_)
        obtain ⟨c11, hF⟩ := ck_some hF
        refine vj_iald G (x := (M 22 x1.toNat)) lkR_1 (by decide) c11 d_m_findInto_59 ?_
        refine vj_iconst G (v := 1) d_m_findInto_60 rfl ?_
        refine vj_icmp_ne G (tgt := 86) d_m_findInto_61 (by decide) (mr_a hM10 lkR_1) ic_1 (fun c12 => ?_) (fun c12 => ?_)
        · rw [if_pos c12] at hF
          exact wk_m_findInto_86 G0 n k23 hk23 x1 hx1 _ hF
        · rw [if_neg c12] at hF
          refine vj_aload_n G (p9 := 0) d_m_findInto_64 rfl rfl ?_
          refine gfR_m_216 G d_m_findInto_65 ?_
          refine vj_aload_n G (p9 := 0) d_m_findInto_68 rfl rfl ?_
          refine gfR_m_130 G d_m_findInto_69 ?_
          refine vj_iload_n G (p9 := 1) d_m_findInto_72 rfl rfl ?_
          obtain ⟨c13, hF⟩ := ck_some hF
          refine vj_iald G (x := x1) lkR_22 (by decide) c13 d_m_findInto_73 ?_
          refine vj_mr (fun hM14 => ?_)
          refine vj_dup2_11 G d_m_findInto_74 rfl rfl ?_
          obtain ⟨c15, hF⟩ := ck_some hF
          refine vj_iald G (x := (M 22 x1.toNat)) lkR_43 (by decide) c15 d_m_findInto_75 ?_
          refine vj_iconst G (v := 1) d_m_findInto_76 rfl ?_
          refine vj_aload_n G (p9 := 0) d_m_findInto_77 rfl rfl ?_
          refine gfR_m_32 G d_m_findInto_78 ?_
          refine vj_iload_n G (p9 := 1) d_m_findInto_81 rfl rfl ?_
          obtain ⟨c16, hF⟩ := ck_some hF
          refine vj_iald G (x := x1) lkR_3 (by decide) c16 d_m_findInto_82 ?_
          refine vj_ishl G d_m_findInto_83 ?_
          refine vj_ior G d_m_findInto_84 ?_
          obtain ⟨c17, hF⟩ := ck_some hF
          refine vj_iast G (x := (M 22 x1.toNat)) lkR_43 (by decide) (by decide) (by decide) c17 (ir_or _ _) d_m_findInto_85 ?_
          exact wk_m_findInto_86 G0 n k23 hk23 x1 hx1 _ hF
set_option maxHeartbeats 4000000 in
set_option maxRecDepth 100000 in
theorem wl_m_findInto_23 {w : Wd} {X : Cx} {r : Int} {M9 : Mm} (G0 : Gx LR w X "WhoRulesModel" b_m_findInto 2 0 0 none) (n : Nat) : ∀ (f : Nat) (x1 : Int) (hx1 : inR x1) (M : Mm), lp_m_findInto_23 n f x1 M = some (r, M9) → VJ LR w X 2 0 r M9 M [(0, .ref (wa w 0)), (1, .int (i32 x1))] [] 23 := by
  intro f
  induction f with
  | zero => intro x1 hx1 M hF; cases hF
  | succ f ih => intro x1 hx1 M hF; exact wk_m_findInto_23 G0 n (lp_m_findInto_23 n f) ih x1 hx1 M hF
set_option maxHeartbeats 4000000 in
set_option maxRecDepth 100000 in
theorem wk_m_findInto_2 {w : Wd} {X : Cx} {r : Int} {M9 : Mm} (G0 : Gx LR w X "WhoRulesModel" b_m_findInto 2 0 0 none) (n : Nat) (k2 : Int → Mm → Rr) (hk2 : ∀ (x1 : Int) (hx1 : inR x1) (M : Mm), k2 x1 M = some (r, M9) → VJ LR w X 2 0 r M9 M [(0, .ref (wa w 0)), (1, .int (i32 x1))] [] 2) (x1 : Int) (hx1 : inR x1) (M : Mm) (hF : f_m_findInto_2 n k2 x1 M = some (r, M9)) : VJ LR w X 2 0 r M9 M [(0, .ref (wa w 0)), (1, .int (i32 x1))] [] 2 := by
  have G := G0.1
  unfold f_m_findInto_2 at hF
  refine vj_iload_n G (p9 := 1) d_m_findInto_2 rfl rfl ?_
  refine vj_bipush G (v := 16) d_m_findInto_3 rfl ?_
  refine vj_icmp_ge G (tgt := 21) d_m_findInto_5 (by decide) hx1 ic_16 (fun c1 => ?_) (fun c1 => ?_)
  · rw [if_pos c1] at hF
    refine vj_iconst G (v := 0) d_m_findInto_21 rfl ?_
    refine vj_istore_n G (lv2 := [(1, .int (i32 0)), (0, .ref (wa w 0))]) d_m_findInto_22 rfl (by decide) rfl ?_
    refine vj_sub [1, 0] rfl ?_
    exact wl_m_findInto_23 G0 n  n 0 ic_0 _ hF
  · rw [if_neg c1] at hF
    refine vj_aload_n G (p9 := 0) d_m_findInto_8 rfl rfl ?_
    refine gfR_m_216 G d_m_findInto_9 ?_
    refine vj_iload_n G (p9 := 1) d_m_findInto_12 rfl rfl ?_
    refine vj_iconst G (v := 0) d_m_findInto_13 rfl ?_
    obtain ⟨c2, hF⟩ := ck_some hF
    refine vj_iast G (x := x1) lkR_43 (by decide) (by decide) (by decide) c2 ic_0 d_m_findInto_14 ?_
    refine vj_iinc G (p9 := 1) (n := 1) (lv2 := [(1, .int (i32 (w32 (x1 + 1)))), (0, .ref (wa w 0))]) d_m_findInto_15 rfl (by decide) rfl ?_
    refine vj_goto G (tgt := 2) d_m_findInto_18 (by decide) ?_
    refine vj_sub [1, 0] rfl ?_
    exact hk2 (w32 (x1 + 1)) (ir_w _) _ hF
