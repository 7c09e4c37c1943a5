/-! Written by wip/whole/gen. Walks. -/
set_option maxHeartbeats 4000000 in
set_option maxRecDepth 100000 in
theorem wl_m_findVotes_238 {w : Wd} {X : Cx} {r : Int} {M9 : Mm} (G0 : Gx LR w X "WhoRulesModel" b_m_findVotes 11 8 177 none) (n : Nat) (k2 : Int → Int → Mm → Rr) (hk2 : ∀ (x1 x2 : Int) (hx1 : inR x1) (hx2 : inR x2) (M : Mm), k2 x1 x2 M = some (r, M9) → VJ LR w X 11 0 r M9 M [(0, .ref (wa w 0)), (1, .int (i32 x1)), (2, .int (i32 x2))] [] 2) : ∀ (f : Nat) (x1 x2 x4 x6 x7 x8 x9 : Int) (hx1 : inR x1) (hx2 : inR x2) (hx4 : inR x4) (hx6 : inR x6) (hx7 : inR x7) (hx8 : inR x8) (hx9 : inR x9) (M : Mm), lp_m_findVotes_238 n k2 f x1 x2 x4 x6 x7 x8 x9 M = some (r, M9) → VJ LR w X 11 0 r M9 M [(0, .ref (wa w 0)), (1, .int (i32 x1)), (2, .int (i32 x2)), (4, .int (i32 x4)), (6, .int (i32 x6)), (7, .int (i32 x7)), (8, .int (i32 x8)), (9, .int (i32 x9))] [] 238 := by
  intro f
  induction f with
  | zero => intro x1 x2 x4 x6 x7 x8 x9 hx1 hx2 hx4 hx6 hx7 hx8 hx9 M hF; cases hF
  | succ f ih => intro x1 x2 x4 x6 x7 x8 x9 hx1 hx2 hx4 hx6 hx7 hx8 hx9 M hF; exact wk_m_findVotes_238 G0 n k2 hk2 (lp_m_findVotes_238 n k2 f) ih x1 x2 x4 x6 x7 x8 x9 hx1 hx2 hx4 hx6 hx7 hx8 hx9 M hF
set_option maxHeartbeats 4000000 in
set_option maxRecDepth 100000 in
theorem wk_m_findVotes_207 {w : Wd} {X : Cx} {r : Int} {M9 : Mm} (G0 : Gx LR w X "WhoRulesModel" b_m_findVotes 11 8 177 none) (n : Nat) (k2 : Int → Int → Mm → Rr) (hk2 : ∀ (x1 x2 : Int) (hx1 : inR x1) (hx2 : inR x2) (M : Mm), k2 x1 x2 M = some (r, M9) → VJ LR w X 11 0 r M9 M [(0, .ref (wa w 0)), (1, .int (i32 x1)), (2, .int (i32 x2))] [] 2) (k207 : Int → Int → Int → Int → Int → Int → Int → Mm → Rr) (hk207 : ∀ (x1 x2 x4 x6 x7 x8 x9 : Int) (hx1 : inR x1) (hx2 : inR x2) (hx4 : inR x4) (hx6 : inR x6) (hx7 : inR x7) (hx8 : inR x8) (hx9 : inR x9) (M : Mm), k207 x1 x2 x4 x6 x7 x8 x9 M = some (r, M9) → VJ LR w X 11 0 r M9 M [(0, .ref (wa w 0)), (1, .int (i32 x1)), (2, .int (i32 x2)), (4, .int (i32 x4)), (6, .int (i32 x6)), (7, .int (i32 x7)), (8, .int (i32 x8)), (9, .int (i32 x9))] [] 207) (x1 x2 x4 x6 x7 x8 x9 : Int) (hx1 : inR x1) (hx2 : inR x2) (hx4 : inR x4) (hx6 : inR x6) (hx7 : inR x7) (hx8 : inR x8) (hx9 : inR x9) (M : Mm) (hF : f_m_findVotes_207 n k2 k207 x1 x2 x4 x6 x7 x8 x9 M = some (r, M9)) : VJ LR w X 11 0 r M9 M [(0, .ref (wa w 0)), (1, .int (i32 x1)), (2, .int (i32 x2)), (4, .int (i32 x4)), (6, .int (i32 x6)), (7, .int (i32 x7)), (8, .int (i32 x8)), (9, .int (i32 x9))] [] 207 := by
  have G := G0.1
  unfold f_m_findVotes_207 at hF
  refine vj_iload G (p9 := 7) d_m_findVotes_207 rfl ?_
  refine vj_aload_n G (p9 := 0) d_m_findVotes_209 rfl rfl ?_
  refine gfR_m_13 G d_m_findVotes_210 ?_
  refine vj_mr (fun hM1 => ?_)
  refine vj_icmp_ge G (tgt := 235) d_m_findVotes_213 (by decide) hx9 (mr_o hM1 lkR_0 flR_0_1) (fun c2 => ?_) (fun c2 => ?_)
  · rw [if_pos c2] at hF
    refine vj_iconst G (v := 0) d_m_findVotes_235 rfl ?_
    refine vj_istore G (lv2 := [(9, .int (i32 0)), (0, .ref (wa w 0)), (1, .int (i32 x1)), (2, .int (i32 x2)), (4, .int (i32 x4)), (6, .int (i32 x6)), (7, .int (i32 x7)), (8, .int (i32 x8))]) d_m_findVotes_236 (by decide) rfl ?_
    refine vj_sub [1, 2, 3, 4, 5, 6, 7, 0] rfl ?_
    exact wl_m_findVotes_238 G0 n k2 hk2 n x1 x2 x4 x6 x7 x8 0 hx1 hx2 hx4 hx6 hx7 hx8 ic_0 _ hF
  · rw [if_neg c2] at hF
    refine vj_aload_n G (p9 := 0) d_m_findVotes_216 rfl rfl ?_
    refine gfR_m_136 G d_m_findVotes_217 ?_
    refine vj_bipush G (v := 16) d_m_findVotes_220 rfl ?_
    refine vj_iload_n G (p9 := 2) d_m_findVotes_222 rfl rfl ?_
    refine vj_imul G d_m_findVotes_223 ?_
    refine vj_iload G (p9 := 7) d_m_findVotes_224 rfl ?_
    refine vj_iadd G d_m_findVotes_226 ?_
    refine vj_iconst G (v := 0) d_m_findVotes_227 rfl ?_
    obtain ⟨c3, hF⟩ := ck_some hF
    refine vj_iast G (x := w32 ((w32 (16 * x2)) + x9)) lkR_24 (by decide) (by decide) (by decide) c3 ic_0 d_m_findVotes_228 ?_
    refine vj_iinc G (p9 := 7) (n := 1) (lv2 := [(9, .int (i32 (w32 (x9 + 1)))), (0, .ref (wa w 0)), (1, .int (i32 x1)), (2, .int (i32 x2)), (4, .int (i32 x4)), (6, .int (i32 x6)), (7, .int (i32 x7)), (8, .int (i32 x8))]) d_m_findVotes_229 rfl (by decide) rfl ?_
    refine vj_goto G (tgt := 207) d_m_findVotes_232 (by decide) ?_
    refine vj_sub [1, 2, 3, 4, 5, 6, 7, 0] rfl ?_
    exact hk207 x1 x2 x4 x6 x7 x8 (w32 (x9 + 1)) hx1 hx2 hx4 hx6 hx7 hx8 (ir_w _) _ hF
set_option maxHeartbeats 4000000 in
set_option maxRecDepth 100000 in
theorem wl_m_findVotes_207 {w : Wd} {X : Cx} {r : Int} {M9 : Mm} (G0 : Gx LR w X "WhoRulesModel" b_m_findVotes 11 8 177 none) (n : Nat) (k2 : Int → Int → Mm → Rr) (hk2 : ∀ (x1 x2 : Int) (hx1 : inR x1) (hx2 : inR x2) (M : Mm), k2 x1 x2 M = some (r, M9) → VJ LR w X 11 0 r M9 M [(0, .ref (wa w 0)), (1, .int (i32 x1)), (2, .int (i32 x2))] [] 2) : ∀ (f : Nat) (x1 x2 x4 x6 x7 x8 x9 : Int) (hx1 : inR x1) (hx2 : inR x2) (hx4 : inR x4) (hx6 : inR x6) (hx7 : inR x7) (hx8 : inR x8) (hx9 : inR x9) (M : Mm), lp_m_findVotes_207 n k2 f x1 x2 x4 x6 x7 x8 x9 M = some (r, M9) → VJ LR w X 11 0 r M9 M [(0, .ref (wa w 0)), (1, .int (i32 x1)), (2, .int (i32 x2)), (4, .int (i32 x4)), (6, .int (i32 x6)), (7, .int (i32 x7)), (8, .int (i32 x8)), (9, .int (i32 x9))] [] 207 := by
  intro f
  induction f with
  | zero => intro x1 x2 x4 x6 x7 x8 x9 hx1 hx2 hx4 hx6 hx7 hx8 hx9 M hF; cases hF
  | succ f ih => intro x1 x2 x4 x6 x7 x8 x9 hx1 hx2 hx4 hx6 hx7 hx8 hx9 M hF; exact wk_m_findVotes_207 G0 n k2 hk2 (lp_m_findVotes_207 n k2 f) ih x1 x2 x4 x6 x7 x8 x9 hx1 hx2 hx4 hx6 hx7 hx8 hx9 M hF
set_option maxHeartbeats 4000000 in
set_option maxRecDepth 100000 in
theorem wk_m_findVotes_194 {w : Wd} {X : Cx} {r : Int} {M9 : Mm} (G0 : Gx LR w X "WhoRulesModel" b_m_findVotes 11 8 177 none) (n : Nat) (k2 : Int → Int → Mm → Rr) (hk2 : ∀ (x1 x2 : Int) (hx1 : inR x1) (hx2 : inR x2) (M : Mm), k2 x1 x2 M = some (r, M9) → VJ LR w X 11 0 r M9 M [(0, .ref (wa w 0)), (1, .int (i32 x1)), (2, .int (i32 x2))] [] 2) (x1 x2 x4 x6 x7 s1 s2 : Int) (hx1 : inR x1) (hx2 : inR x2) (hx4 : inR x4) (hx6 : inR x6) (hx7 : inR x7) (hs1 : inR s1) (hs2 : inR s2) (M : Mm) (hF : f_m_findVotes_194 n k2 x1 x2 x4 x6 x7 s1 s2 M = some (r, M9)) : VJ LR w X 11 0 r M9 M [(0, .ref (wa w 0)), (1, .int (i32 x1)), (2, .int (i32 x2)), (4, .int (i32 x4)), (6, .int (i32 x6)), (7, .int (i32 x7))] [.int (i32 s2), .int (i32 s1), .ref (wa w 28)] 194 := by
  have G := G0.1
  unfold f_m_findVotes_194 at hF
  obtain ⟨c1, hF⟩ := ck_some hF
  refine vj_iast G (x := s1) lkR_28 (by decide) (by decide) (by decide) c1 hs2 d_m_findVotes_194 ?_
  refine vj_aload_n G (p9 := 0) d_m_findVotes_195 rfl rfl ?_
  refine vj_iload_n G (p9 := 2) d_m_findVotes_196 rfl rfl ?_
  refine vj_iconst G (v := 4) d_m_findVotes_197 rfl ?_
  refine vj_iload_n G (p9 := 1) d_m_findVotes_198 rfl rfl ?_
  obtain ⟨r2, M2, e2, hF⟩ := bnd_some hF
  refine vj_callV1 G (ct_m_ruled (gx_ij G) n x2 4 x1 hx2 ic_4 hx1 e2) lkR_0 clR_0 rfl q_1659 cq_m_ruled rfl (by decide) (by decide) (Nat.le_of_ble_eq_true rfl) d_m_findVotes_199 rfl (fun hr2 => ?_)
  refine vj_istore G (lv2 := [(8, .int (i32 r2)), (0, .ref (wa w 0)), (1, .int (i32 x1)), (2, .int (i32 x2)), (4, .int (i32 x4)), (6, .int (i32 x6)), (7, .int (i32 x7))]) d_m_findVotes_202 (by decide) rfl ?_
  refine vj_iconst G (v := 0) d_m_findVotes_204 rfl ?_
  refine vj_istore G (lv2 := [(9, .int (i32 0)), (8, .int (i32 r2)), (0, .ref (wa w 0)), (1, .int (i32 x1)), (2, .int (i32 x2)), (4, .int (i32 x4)), (6, .int (i32 x6)), (7, .int (i32 x7))]) d_m_findVotes_205 (by decide) rfl ?_
  refine vj_sub [2, 3, 4, 5, 6, 7, 1, 0] rfl ?_
  exact wl_m_findVotes_207 G0 n k2 hk2 n x1 x2 x4 x6 x7 r2 0 hx1 hx2 hx4 hx6 hx7 hr2 ic_0 _ hF
set_option maxHeartbeats 4000000 in
set_option maxRecDepth 100000 in
theorem wk_m_findVotes_193 {w : Wd} {X : Cx} {r : Int} {M9 : Mm} (G0 : Gx LR w X "WhoRulesModel" b_m_findVotes 11 8 177 none) (n : Nat) (k2 : Int → Int → Mm → Rr) (hk2 : ∀ (x1 x2 : Int) (hx1 : inR x1) (hx2 : inR x2) (M : Mm), k2 x1 x2 M = some (r, M9) → VJ LR w X 11 0 r M9 M [(0, .ref (wa w 0)), (1, .int (i32 x1)), (2, .int (i32 x2))] [] 2) (x1 x2 x4 x6 x7 s1 : Int) (hx1 : inR x1) (hx2 : inR x2) (hx4 : inR x4) (hx6 : inR x6) (hx7 : inR x7) (hs1 : inR s1) (M : Mm) (hF : f_m_findVotes_193 n k2 x1 x2 x4 x6 x7 s1 M = some (r, M9)) : VJ LR w X 11 0 r M9 M [(0, .ref (wa w 0)), (1, .int (i32 x1)), (2, .int (i32 x2)), (4, .int (i32 x4)), (6, .int (i32 x6)), (7, .int (i32 x7))] [.int (i32 s1), .ref (wa w 28)] 193 := by
  have G := G0.1
  unfold f_m_findVotes_193 at hF
  refine vj_iconst G (v := (-1)) d_m_findVotes_193 rfl ?_
  exact wk_m_findVotes_194 G0 n k2 hk2 x1 x2 x4 x6 x7 s1 (-1) hx1 hx2 hx4 hx6 hx7 hs1 ic_m1 _ hF
set_option maxHeartbeats 4000000 in
set_option maxRecDepth 100000 in
theorem wk_m_findVotes_154 {w : Wd} {X : Cx} {r : Int} {M9 : Mm} (G0 : Gx LR w X "WhoRulesModel" b_m_findVotes 11 8 177 none) (n : Nat) (k2 : Int → Int → Mm → Rr) (hk2 : ∀ (x1 x2 : Int) (hx1 : inR x1) (hx2 : inR x2) (M : Mm), k2 x1 x2 M = some (r, M9) → VJ LR w X 11 0 r M9 M [(0, .ref (wa w 0)), (1, .int (i32 x1)), (2, .int (i32 x2))] [] 2) (x1 x2 x4 x6 s0 : Int) (hx1 : inR x1) (hx2 : inR x2) (hx4 : inR x4) (hx6 : inR x6) (hs0 : inR s0) (M : Mm) (hF : f_m_findVotes_154 n k2 x1 x2 x4 x6 s0 M = some (r, M9)) : VJ LR w X 11 0 r M9 M [(0, .ref (wa w 0)), (1, .int (i32 x1)), (2, .int (i32 x2)), (4, .int (i32 x4)), (6, .int (i32 x6))] [.int (i32 s0)] 154 := by
  have G := G0.1
  unfold f_m_findVotes_154 at hF
  refine vj_istore G (lv2 := [(7, .int (i32 s0)), (0, .ref (wa w 0)), (1, .int (i32 x1)), (2, .int (i32 x2)), (4, .int (i32 x4)), (6, .int (i32 x6))]) d_m_findVotes_154 (by decide) rfl ?_
  refine vj_aload_n G (p9 := 1) d_m_findVotes_156 rfl rfl ?_
  refine gfR_m_148 G d_m_findVotes_157 ?_
  refine vj_iload_n G (p9 := 3) d_m_findVotes_160 rfl rfl ?_
  refine vj_aload_n G (p9 := 1) d_m_findVotes_161 rfl rfl ?_
  refine vj_iload_n G (p9 := 3) d_m_findVotes_162 rfl rfl ?_
  refine vj_iconst G (v := 3) d_m_findVotes_163 rfl ?_
  refine vj_iload_n G (p9 := 2) d_m_findVotes_164 rfl rfl ?_
  obtain ⟨r1, M1, e1, hF⟩ := bnd_some hF
  refine vj_callV1 G (ct_m_ruled (gx_ij G) n x2 3 x1 hx2 ic_3 hx1 e1) lkR_0 clR_0 rfl q_1659 cq_m_ruled rfl (by decide) (by decide) (Nat.le_of_ble_eq_true rfl) d_m_findVotes_165 rfl (fun hr1 => ?_)
  refine vj_if_lt G (tgt := 193) d_m_findVotes_168 (by decide) hr1 (fun c2 => ?_) (fun c2 => ?_)
  · rw [if_pos c2] at hF
    refine vj_sub [1, 2, 3, 4, 5, 0] rfl ?_
    exact wk_m_findVotes_193 G0 n k2 hk2 x1 x2 x4 x6 s0 x2 hx1 hx2 hx4 hx6 hs0 hx2 _ hF
  · rw [if_neg c2] at hF
    refine vj_aload_n G (p9 := 1) d_m_findVotes_171 rfl rfl ?_
    refine vj_aload_n G (p9 := 1) d_m_findVotes_172 rfl rfl ?_
    refine gfR_m_89 G d_m_findVotes_173 ?_
    refine vj_iconst G (v := 3) d_m_findVotes_176 rfl ?_
    refine vj_iald G (x := 3) lkR_18 (by decide) ⟨by decide, by decide⟩ d_m_findVotes_177 ?_
    refine vj_mr (fun hM3 => ?_)
    obtain ⟨r4, M4, e4, hF⟩ := bnd_some hF
    refine vj_callV3 G (ct_m_isHolder (gx_ij G) n (M1 18 (3 : Int).toNat) (mr_a hM3 lkR_18) e4) lkR_0 clR_0 rfl q_1559 cq_m_isHolder rfl (by decide) (by decide) (Nat.le_of_ble_eq_true rfl) d_m_findVotes_178 rfl (fun hr4 => ?_)
    refine vj_if_eq G (tgt := 193) d_m_findVotes_181 (by decide) (ir_b hr4) (fun c5 => ?_) (fun c5 => ?_)
    · rw [if_pos c5] at hF
      refine vj_sub [1, 2, 3, 4, 5, 0] rfl ?_
      exact wk_m_findVotes_193 G0 n k2 hk2 x1 x2 x4 x6 s0 x2 hx1 hx2 hx4 hx6 hs0 hx2 _ hF
    · rw [if_neg c5] at hF
      refine vj_aload_n G (p9 := 1) d_m_findVotes_184 rfl rfl ?_
      refine gfR_m_89 G d_m_findVotes_185 ?_
      refine vj_iconst G (v := 3) d_m_findVotes_188 rfl ?_
      refine vj_iald G (x := 3) lkR_18 (by decide) ⟨by decide, by decide⟩ d_m_findVotes_189 ?_
      refine vj_mr (fun hM6 => ?_)
      refine vj_goto G (tgt := 194) d_m_findVotes_190 (by decide) ?_
      refine vj_sub [1, 2, 3, 4, 5, 0] rfl ?_
      exact wk_m_findVotes_194 G0 n k2 hk2 x1 x2 x4 x6 s0 x2 (M4 18 (3 : Int).toNat) hx1 hx2 hx4 hx6 hs0 hx2 (mr_a hM6 lkR_18) _ hF
set_option maxHeartbeats 4000000 in
set_option maxRecDepth 100000 in
theorem wk_m_findVotes_137 {w : Wd} {X : Cx} {r : Int} {M9 : Mm} (G0 : Gx LR w X "WhoRulesModel" b_m_findVotes 11 8 177 none) (n : Nat) (k2 : Int → Int → Mm → Rr) (hk2 : ∀ (x1 x2 : Int) (hx1 : inR x1) (hx2 : inR x2) (M : Mm), k2 x1 x2 M = some (r, M9) → VJ LR w X 11 0 r M9 M [(0, .ref (wa w 0)), (1, .int (i32 x1)), (2, .int (i32 x2))] [] 2) (x1 x2 x4 x5 s0 : Int) (hx1 : inR x1) (hx2 : inR x2) (hx4 : inR x4) (hx5 : inB x5) (hs0 : inR s0) (M : Mm) (hF : f_m_findVotes_137 n k2 x1 x2 x4 x5 s0 M = some (r, M9)) : VJ LR w X 11 0 r M9 M [(0, .ref (wa w 0)), (1, .int (i32 x1)), (2, .int (i32 x2)), (4, .int (i32 x4)), (5, .int (i32 x5))] [.int (i32 s0)] 137 := by
  have G := G0.1
  unfold f_m_findVotes_137 at hF
  refine vj_istore G (lv2 := [(6, .int (i32 s0)), (0, .ref (wa w 0)), (1, .int (i32 x1)), (2, .int (i32 x2)), (4, .int (i32 x4)), (5, .int (i32 x5))]) d_m_findVotes_137 (by decide) rfl ?_
  refine vj_iload G (p9 := 5) d_m_findVotes_139 rfl ?_
  refine vj_if_eq G (tgt := 153) d_m_findVotes_141 (by decide) (ir_b hx5) (fun c1 => ?_) (fun c1 => ?_)
  · rw [if_pos c1] at hF
    refine vj_iconst G (v := 1) d_m_findVotes_153 rfl ?_
    refine vj_sub [1, 2, 3, 4, 0] rfl ?_
    exact wk_m_findVotes_154 G0 n k2 hk2 x1 x2 x4 s0 1 hx1 hx2 hx4 hs0 ic_1 _ hF
  · rw [if_neg c1] at hF
    refine vj_aload_n G (p9 := 1) d_m_findVotes_144 rfl rfl ?_
    refine gfR_m_92 G d_m_findVotes_145 ?_
    refine vj_iconst G (v := 2) d_m_findVotes_148 rfl ?_
    refine vj_iald G (x := 2) lkR_19 (by decide) ⟨by decide, by decide⟩ d_m_findVotes_149 ?_
    refine vj_mr (fun hM2 => ?_)
    refine vj_goto G (tgt := 154) d_m_findVotes_150 (by decide) ?_
    refine vj_sub [1, 2, 3, 4, 0] rfl ?_
    exact wk_m_findVotes_154 G0 n k2 hk2 x1 x2 x4 s0 (M 19 (2 : Int).toNat) hx1 hx2 hx4 hs0 (mr_a hM2 lkR_19) _ hF
set_option maxHeartbeats 4000000 in
set_option maxRecDepth 100000 in
theorem wk_m_findVotes_118 {w : Wd} {X : Cx} {r : Int} {M9 : Mm} (G0 : Gx LR w X "WhoRulesModel" b_m_findVotes 11 8 177 none) (n : Nat) (k2 : Int → Int → Mm → Rr) (hk2 : ∀ (x1 x2 : Int) (hx1 : inR x1) (hx2 : inR x2) (M : Mm), k2 x1 x2 M = some (r, M9) → VJ LR w X 11 0 r M9 M [(0, .ref (wa w 0)), (1, .int (i32 x1)), (2, .int (i32 x2))] [] 2) (x1 x2 x4 s0 : Int) (hx1 : inR x1) (hx2 : inR x2) (hx4 : inR x4) (hs0 : inB s0) (M : Mm) (hF : f_m_findVotes_118 n k2 x1 x2 x4 s0 M = some (r, M9)) : VJ LR w X 11 0 r M9 M [(0, .ref (wa w 0)), (1, .int (i32 x1)), (2, .int (i32 x2)), (4, .int (i32 x4))] [.int (i32 s0)] 118 := by
  have G := G0.1
  unfold f_m_findVotes_118 at hF
  refine vj_istore G (lv2 := [(5, .int (i32 s0)), (0, .ref (wa w 0)), (1, .int (i32 x1)), (2, .int (i32 x2)), (4, .int (i32 x4))]) d_m_findVotes_118 (by decide) rfl ?_
  refine vj_iload G (p9 := 0) d_m_findVotes_120 rfl ?_
  refine vj_if_eq G (tgt := 134) d_m_findVotes_122 (by decide) (ir_b hs0) (fun c1 => ?_) (fun c1 => ?_)
  · rw [if_pos c1] at hF
    refine vj_sipush G (v := 999) d_m_findVotes_134 rfl ?_
    refine vj_sub [1, 2, 3, 4, 0] rfl ?_
    exact wk_m_findVotes_137 G0 n k2 hk2 x1 x2 x4 s0 999 hx1 hx2 hx4 hs0 ic_999 _ hF
  · rw [if_neg c1] at hF
    refine vj_aload_n G (p9 := 1) d_m_findVotes_125 rfl rfl ?_
    refine gfR_m_89 G d_m_findVotes_126 ?_
    refine vj_iconst G (v := 2) d_m_findVotes_129 rfl ?_
    refine vj_iald G (x := 2) lkR_18 (by decide) ⟨by decide, by decide⟩ d_m_findVotes_130 ?_
    refine vj_mr (fun hM2 => ?_)
    refine vj_goto G (tgt := 137) d_m_findVotes_131 (by decide) ?_
    refine vj_sub [1, 2, 3, 4, 0] rfl ?_
    exact wk_m_findVotes_137 G0 n k2 hk2 x1 x2 x4 s0 (M 18 (2 : Int).toNat) hx1 hx2 hx4 hs0 (mr_a hM2 lkR_18) _ hF
set_option maxHeartbeats 4000000 in
set_option maxRecDepth 100000 in
theorem wk_m_findVotes_101 {w : Wd} {X : Cx} {r : Int} {M9 : Mm} (G0 : Gx LR w X "WhoRulesModel" b_m_findVotes 11 8 177 none) (n : Nat) (k2 : Int → Int → Mm → Rr) (hk2 : ∀ (x1 x2 : Int) (hx1 : inR x1) (hx2 : inR x2) (M : Mm), k2 x1 x2 M = some (r, M9) → VJ LR w X 11 0 r M9 M [(0, .ref (wa w 0)), (1, .int (i32 x1)), (2, .int (i32 x2))] [] 2) (x1 x2 s0 : Int) (hx1 : inR x1) (hx2 : inR x2) (hs0 : inR s0) (M : Mm) (hF : f_m_findVotes_101 n k2 x1 x2 s0 M = some (r, M9)) : VJ LR w X 11 0 r M9 M [(0, .ref (wa w 0)), (1, .int (i32 x1)), (2, .int (i32 x2))] [.int (i32 s0)] 101 := by
  have G := G0.1
  unfold f_m_findVotes_101 at hF
  refine vj_istore G (lv2 := [(4, .int (i32 s0)), (0, .ref (wa w 0)), (1, .int (i32 x1)), (2, .int (i32 x2))]) d_m_findVotes_101 (by decide) rfl ?_
  refine vj_aload_n G (p9 := 1) d_m_findVotes_103 rfl rfl ?_
  refine vj_iload_n G (p9 := 3) d_m_findVotes_104 rfl rfl ?_
  refine vj_iconst G (v := 2) d_m_findVotes_105 rfl ?_
  refine vj_iload_n G (p9 := 2) d_m_findVotes_106 rfl rfl ?_
  obtain ⟨r1, M1, e1, hF⟩ := bnd_some hF
  refine vj_callV1 G (ct_m_ruled (gx_ij G) n x2 2 x1 hx2 ic_2 hx1 e1) lkR_0 clR_0 rfl q_1659 cq_m_ruled rfl (by decide) (by decide) (Nat.le_of_ble_eq_true rfl) d_m_findVotes_107 rfl (fun hr1 => ?_)
  refine vj_if_lt G (tgt := 117) d_m_findVotes_110 (by decide) hr1 (fun c2 => ?_) (fun c2 => ?_)
  · rw [if_pos c2] at hF
    refine vj_iconst G (v := 0) d_m_findVotes_117 rfl ?_
    refine vj_sub [1, 2, 3, 0] rfl ?_
    exact wk_m_findVotes_118 G0 n k2 hk2 x1 x2 s0 0 hx1 hx2 hs0 (Or.inl rfl) _ hF
  · rw [if_neg c2] at hF
    refine vj_iconst G (v := 1) d_m_findVotes_113 rfl ?_
    refine vj_goto G (tgt := 118) d_m_findVotes_114 (by decide) ?_
    refine vj_sub [1, 2, 3, 0] rfl ?_
    exact wk_m_findVotes_118 G0 n k2 hk2 x1 x2 s0 1 hx1 hx2 hs0 (Or.inr rfl) _ hF
set_option maxHeartbeats 4000000 in
set_option maxRecDepth 100000 in
theorem wk_m_findVotes_78 {w : Wd} {X : Cx} {r : Int} {M9 : Mm} (G0 : Gx LR w X "WhoRulesModel" b_m_findVotes 11 8 177 none) (n : Nat) (k2 : Int → Int → Mm → Rr) (hk2 : ∀ (x1 x2 : Int) (hx1 : inR x1) (hx2 : inR x2) (M : Mm), k2 x1 x2 M = some (r, M9) → VJ LR w X 11 0 r M9 M [(0, .ref (wa w 0)), (1, .int (i32 x1)), (2, .int (i32 x2))] [] 2) (x1 x2 s1 s2 : Int) (hx1 : inR x1) (hx2 : inR x2) (hs1 : inR s1) (hs2 : inR s2) (M : Mm) (hF : f_m_findVotes_78 n k2 x1 x2 s1 s2 M = some (r, M9)) : VJ LR w X 11 0 r M9 M [(0, .ref (wa w 0)), (1, .int (i32 x1)), (2, .int (i32 x2))] [.int (i32 s2), .int (i32 s1), .ref (wa w 27)] 78 := by
  have G := G0.1
  unfold f_m_findVotes_78 at hF
  obtain ⟨c1, hF⟩ := ck_some hF
  refine vj_iast G (x := s1) lkR_27 (by decide) (by decide) (by decide) c1 hs2 d_m_findVotes_78 ?_
  refine vj_aload_n G (p9 := 0) d_m_findVotes_79 rfl rfl ?_
  refine vj_iload_n G (p9 := 2) d_m_findVotes_80 rfl rfl ?_
  refine vj_iconst G (v := 1) d_m_findVotes_81 rfl ?_
  refine vj_iload_n G (p9 := 1) d_m_findVotes_82 rfl rfl ?_
  obtain ⟨r2, M2, e2, hF⟩ := bnd_some hF
  refine vj_callV1 G (ct_m_ruled (gx_ij G) n x2 1 x1 hx2 ic_1 hx1 e2) lkR_0 clR_0 rfl q_1659 cq_m_ruled rfl (by decide) (by decide) (Nat.le_of_ble_eq_true rfl) d_m_findVotes_83 rfl (fun hr2 => ?_)
  refine vj_if_lt G (tgt := 98) d_m_findVotes_86 (by decide) hr2 (fun c3 => ?_) (fun c3 => ?_)
  · rw [if_pos c3] at hF
    refine vj_sipush G (v := 999) d_m_findVotes_98 rfl ?_
    exact wk_m_findVotes_101 G0 n k2 hk2 x1 x2 999 hx1 hx2 ic_999 _ hF
  · rw [if_neg c3] at hF
    refine vj_aload_n G (p9 := 0) d_m_findVotes_89 rfl rfl ?_
    refine gfR_m_89 G d_m_findVotes_90 ?_
    refine vj_iconst G (v := 1) d_m_findVotes_93 rfl ?_
    refine vj_iald G (x := 1) lkR_18 (by decide) ⟨by decide, by decide⟩ d_m_findVotes_94 ?_
    refine vj_mr (fun hM4 => ?_)
    refine vj_goto G (tgt := 101) d_m_findVotes_95 (by decide) ?_
    exact wk_m_findVotes_101 G0 n k2 hk2 x1 x2 (M2 18 (1 : Int).toNat) hx1 hx2 (mr_a hM4 lkR_18) _ hF
set_option maxHeartbeats 4000000 in
set_option maxRecDepth 100000 in
theorem wk_m_findVotes_58 {w : Wd} {X : Cx} {r : Int} {M9 : Mm} (G0 : Gx LR w X "WhoRulesModel" b_m_findVotes 11 8 177 none) (n : Nat) (k2 : Int → Int → Mm → Rr) (hk2 : ∀ (x1 x2 : Int) (hx1 : inR x1) (hx2 : inR x2) (M : Mm), k2 x1 x2 M = some (r, M9) → VJ LR w X 11 0 r M9 M [(0, .ref (wa w 0)), (1, .int (i32 x1)), (2, .int (i32 x2))] [] 2) (x1 x2 x3 s1 s2 : Int) (hx1 : inR x1) (hx2 : inR x2) (hx3 : inB x3) (hs1 : inR s1) (hs2 : inR s2) (M : Mm) (hF : f_m_findVotes_58 n k2 x1 x2 x3 s1 s2 M = some (r, M9)) : VJ LR w X 11 0 r M9 M [(0, .ref (wa w 0)), (1, .int (i32 x1)), (2, .int (i32 x2)), (3, .int (i32 x3))] [.int (i32 s2), .int (i32 s1), .ref (wa w 26)] 58 := by
  have G := G0.1
  unfold f_m_findVotes_58 at hF
  obtain ⟨c1, hF⟩ := ck_some hF
  refine vj_iast G (x := s1) lkR_26 (by decide) (by decide) (by decide) c1 hs2 d_m_findVotes_58 ?_
  refine vj_aload_n G (p9 := 0) d_m_findVotes_59 rfl rfl ?_
  refine gfR_m_145 G d_m_findVotes_60 ?_
  refine vj_iload_n G (p9 := 2) d_m_findVotes_63 rfl rfl ?_
  refine vj_iload_n G (p9 := 3) d_m_findVotes_64 rfl rfl ?_
  refine vj_if_eq G (tgt := 77) d_m_findVotes_65 (by decide) (ir_b hx3) (fun c2 => ?_) (fun c2 => ?_)
  · rw [if_pos c2] at hF
    refine vj_iconst G (v := 2) d_m_findVotes_77 rfl ?_
    refine vj_sub [0, 1, 2] rfl ?_
    exact wk_m_findVotes_78 G0 n k2 hk2 x1 x2 x2 2 hx1 hx2 hx2 ic_2 _ hF
  · rw [if_neg c2] at hF
    refine vj_aload_n G (p9 := 0) d_m_findVotes_68 rfl rfl ?_
    refine gfR_m_92 G d_m_findVotes_69 ?_
    refine vj_iconst G (v := 0) d_m_findVotes_72 rfl ?_
    refine vj_iald G (x := 0) lkR_19 (by decide) ⟨by decide, by decide⟩ d_m_findVotes_73 ?_
    refine vj_mr (fun hM3 => ?_)
    refine vj_goto G (tgt := 78) d_m_findVotes_74 (by decide) ?_
    refine vj_sub [0, 1, 2] rfl ?_
    exact wk_m_findVotes_78 G0 n k2 hk2 x1 x2 x2 ((mset M 26 s1.toNat s2) 19 (0 : Int).toNat) hx1 hx2 hx2 (mr_a hM3 lkR_19) _ hF
set_option maxHeartbeats 4000000 in
set_option maxRecDepth 100000 in
theorem wk_m_findVotes_38 {w : Wd} {X : Cx} {r : Int} {M9 : Mm} (G0 : Gx LR w X "WhoRulesModel" b_m_findVotes 11 8 177 none) (n : Nat) (k2 : Int → Int → Mm → Rr) (hk2 : ∀ (x1 x2 : Int) (hx1 : inR x1) (hx2 : inR x2) (M : Mm), k2 x1 x2 M = some (r, M9) → VJ LR w X 11 0 r M9 M [(0, .ref (wa w 0)), (1, .int (i32 x1)), (2, .int (i32 x2))] [] 2) (x1 x2 s0 : Int) (hx1 : inR x1) (hx2 : inR x2) (hs0 : inB s0) (M : Mm) (hF : f_m_findVotes_38 n k2 x1 x2 s0 M = some (r, M9)) : VJ LR w X 11 0 r M9 M [(0, .ref (wa w 0)), (1, .int (i32 x1)), (2, .int (i32 x2))] [.int (i32 s0)] 38 := by
  have G := G0.1
  unfold f_m_findVotes_38 at hF
  refine vj_istore_n G (lv2 := [(3, .int (i32 s0)), (0, .ref (wa w 0)), (1, .int (i32 x1)), (2, .int (i32 x2))]) d_m_findVotes_38 rfl (by decide) rfl ?_
  refine vj_aload_n G (p9 := 1) d_m_findVotes_39 rfl rfl ?_
  refine gfR_m_142 G d_m_findVotes_40 ?_
  refine vj_iload_n G (p9 := 3) d_m_findVotes_43 rfl rfl ?_
  refine vj_iload_n G (p9 := 0) d_m_findVotes_44 rfl rfl ?_
  refine vj_if_eq G (tgt := 57) d_m_findVotes_45 (by decide) (ir_b hs0) (fun c1 => ?_) (fun c1 => ?_)
  · rw [if_pos c1] at hF
    refine vj_iconst G (v := 1) d_m_findVotes_57 rfl ?_
    refine vj_sub [1, 2, 3, 0] rfl ?_
    exact wk_m_findVotes_58 G0 n k2 hk2 x1 x2 s0 x2 1 hx1 hx2 hs0 hx2 ic_1 _ hF
  · rw [if_neg c1] at hF
    refine vj_aload_n G (p9 := 1) d_m_findVotes_48 rfl rfl ?_
    refine gfR_m_89 G d_m_findVotes_49 ?_
    refine vj_iconst G (v := 0) d_m_findVotes_52 rfl ?_
    refine vj_iald G (x := 0) lkR_18 (by decide) ⟨by decide, by decide⟩ d_m_findVotes_53 ?_
    refine vj_mr (fun hM2 => ?_)
    refine vj_goto G (tgt := 58) d_m_findVotes_54 (by decide) ?_
    refine vj_sub [1, 2, 3, 0] rfl ?_
    exact wk_m_findVotes_58 G0 n k2 hk2 x1 x2 s0 x2 (M 18 (0 : Int).toNat) hx1 hx2 hs0 hx2 (mr_a hM2 lkR_18) _ hF
set_option maxHeartbeats 4000000 in
set_option maxRecDepth 100000 in
theorem wk_m_findVotes_2 {w : Wd} {X : Cx} {r : Int} {M9 : Mm} (G0 : Gx LR w X "WhoRulesModel" b_m_findVotes 11 8 177 none) (n : Nat) (k2 : Int → Int → Mm → Rr) (hk2 : ∀ (x1 x2 : Int) (hx1 : inR x1) (hx2 : inR x2) (M : Mm), k2 x1 x2 M = some (r, M9) → VJ LR w X 11 0 r M9 M [(0, .ref (wa w 0)), (1, .int (i32 x1)), (2, .int (i32 x2))] [] 2) (x1 x2 : Int) (hx1 : inR x1) (hx2 : inR x2) (M : Mm) (hF : f_m_findVotes_2 n k2 x1 x2 M = some (r, M9)) : VJ LR w X 11 0 r M9 M [(0, .ref (wa w 0)), (1, .int (i32 x1)), (2, .int (i32 x2))] [] 2 := by
  have G := G0.1
  unfold f_m_findVotes_2 at hF
  refine vj_iload_n G (p9 := 2) d_m_findVotes_2 rfl rfl ?_
  refine vj_aload_n G (p9 := 0) d_m_findVotes_3 rfl rfl ?_
  refine gfR_m_13 G d_m_findVotes_4 ?_
  refine vj_mr (fun hM1 => ?_)
  refine vj_icmp_ge G (tgt := 476) d_m_findVotes_7 (by decide) hx2 (mr_o hM1 lkR_0 flR_0_1) (fun c2 => ?_) (fun c2 => ?_)
  · rw [if_pos c2] at hF
    cases hF
    exact vj_vret G0 d_m_findVotes_476
  · rw [if_neg c2] at hF
    refine vj_aload_n G (p9 := 0) d_m_findVotes_10 rfl rfl ?_
    refine gfR_m_25 G d_m_findVotes_11 ?_
    refine vj_iload_n G (p9 := 2) d_m_findVotes_14 rfl rfl ?_
    obtain ⟨c3, hF⟩ := ck_some hF
    refine vj_iald G (x := x2) lkR_1 (by decide) c3 d_m_findVotes_15 ?_
    refine vj_mr (fun hM4 => ?_)
    refine vj_iconst G (v := 1) d_m_findVotes_16 rfl ?_
    refine vj_icmp_eq G (tgt := 23) d_m_findVotes_17 (by decide) (mr_a hM4 lkR_1) ic_1 (fun c5 => ?_) (fun c5 => ?_)
    · rw [if_pos c5] at hF
      refine vj_aload_n G (p9 := 0) d_m_findVotes_23 rfl rfl ?_
      refine vj_iload_n G (p9 := 2) d_m_findVotes_24 rfl rfl ?_
      refine vj_iconst G (v := 0) d_m_findVotes_25 rfl ?_
      refine vj_iload_n G (p9 := 1) d_m_findVotes_26 rfl rfl ?_
      obtain ⟨r6, M6, e6, hF⟩ := bnd_some hF
      refine vj_callV1 G (ct_m_ruled (gx_ij G) n x2 0 x1 hx2 ic_0 hx1 e6) lkR_0 clR_0 rfl q_1659 cq_m_ruled rfl (by decide) (by decide) (Nat.le_of_ble_eq_true rfl) d_m_findVotes_27 rfl (fun hr6 => ?_)
      refine vj_if_lt G (tgt := 37) d_m_findVotes_30 (by decide) hr6 (fun c7 => ?_) (fun c7 => ?_)
      · rw [if_pos c7] at hF
        refine vj_iconst G (v := 0) d_m_findVotes_37 rfl ?_
        exact wk_m_findVotes_38 G0 n k2 hk2 x1 x2 0 hx1 hx2 (Or.inl rfl) _ hF
      · rw [if_neg c7] at hF
        refine vj_iconst G (v := 1) d_m_findVotes_33 rfl ?_
        refine vj_goto G (tgt := 38) d_m_findVotes_34 (by decide) ?_
        exact wk_m_findVotes_38 G0 n k2 hk2 x1 x2 1 hx1 hx2 (Or.inr rfl) _ hF
    · rw [if_neg c5] at hF
      refine vj_goto G (tgt := 470) d_m_findVotes_20 (by decide) ?_
      exact wk_m_findVotes_470 G0 n k2 hk2 x1 x2 hx1 hx2 _ hF
set_option maxHeartbeats 4000000 in
set_option maxRecDepth 100000 in
theorem wl_m_findVotes_2 {w : Wd} {X : Cx} {r : Int} {M9 : Mm} (G0 : Gx LR w X "WhoRulesModel" b_m_findVotes 11 8 177 none) (n : Nat) : ∀ (f : Nat) (x1 x2 : Int) (hx1 : inR x1) (hx2 : inR x2) (M : Mm), lp_m_findVotes_2 n f x1 x2 M = some (r, M9) → VJ LR w X 11 0 r M9 M [(0, .ref (wa w 0)), (1, .int (i32 x1)), (2, .int (i32 x2))] [] 2 := by
  intro f
  induction f with
  | zero => intro x1 x2 hx1 hx2 M hF; cases hF
  | succ f ih => intro x1 x2 hx1 hx2 M hF; exact wk_m_findVotes_2 G0 n (lp_m_findVotes_2 n f) ih x1 x2 hx1 hx2 M hF
set_option maxHeartbeats 4000000 in
set_option maxRecDepth 100000 in
theorem ct_m_findVotes {w : Wd} (hij : ij LR w) (n : Nat) (x1 : Int) (hx1 : inR x1) {M : Mm} {r : Int} {M9 : Mm} (hF : f_m_findVotes n x1 M = some (r, M9)) : Ct LR w y_m_findVotes b_m_findVotes 11 none 8 177 0 [.ref (wa w 0), .int (i32 x1)] M r M9 := by
  refine Ct.of hij KstR (by decide +kernel) (Nat.le_of_ble_eq_true rfl) (fun X G0 => ?_)
  have G := G0.1
  show VJ LR w X 11 0 r M9 M [(0, .ref (wa w 0)), (1, .int (i32 x1))] [] 0
  unfold f_m_findVotes at hF
  refine vj_iconst G (v := 0) d_m_findVotes_0 rfl ?_
  refine vj_istore_n G (lv2 := [(2, .int (i32 0)), (0, .ref (wa w 0)), (1, .int (i32 x1))]) d_m_findVotes_1 rfl (by decide) rfl ?_
  refine vj_sub [1, 2, 0] rfl ?_
  exact wl_m_findVotes_2 G0 n  n x1 0 hx1 ic_0 _ hF
set_option maxHeartbeats 4000000 in
set_option maxRecDepth 100000 in
theorem ct_m_look {w : Wd} (hij : ij LR w) (n : Nat) (x1 : Int) (hx1 : inR x1) {M : Mm} {r : Int} {M9 : Mm} (hF : f_m_look n x1 M = some (r, M9)) : Ct LR w y_m_look b_m_look 2 none 9 207 0 [.ref (wa w 0), .int (i32 x1)] M r M9 := by
  refine Ct.of hij KstR (by decide +kernel) (Nat.le_of_ble_eq_true rfl) (fun X G0 => ?_)
  have G := G0.1
  show VJ LR w X 2 0 r M9 M [(0, .ref (wa w 0)), (1, .int (i32 x1))] [] 0
  unfold f_m_look at hF
  refine vj_aload_n G (p9 := 0) d_m_look_0 rfl rfl ?_
  refine vj_iload_n G (p9 := 1) d_m_look_1 rfl rfl ?_
  obtain ⟨r1, M1, e1, hF⟩ := bnd_some hF
  refine vj_callV0 G (ct_m_layOut (gx_ij G) n x1 hx1 e1) lkR_0 clR_0 rfl q_1676 cq_m_layOut rfl (by decide) (by decide) (Nat.le_of_ble_eq_true rfl) d_m_look_2 rfl (fun hr1 => ?_)
  refine vj_aload_n G (p9 := 0) d_m_look_5 rfl rfl ?_
  refine vj_iload_n G (p9 := 1) d_m_look_6 rfl rfl ?_
  obtain ⟨r2, M2, e2, hF⟩ := bnd_some hF
  refine vj_callV0 G (ct_m_findVotes (gx_ij G) n x1 hx1 e2) lkR_0 clR_0 rfl q_1680 cq_m_findVotes rfl (by decide) (by decide) (Nat.le_of_ble_eq_true rfl) d_m_look_7 rfl (fun hr2 => ?_)
  cases hF
  exact vj_vret G0 d_m_look_10
set_option maxHeartbeats 4000000 in
set_option maxRecDepth 100000 in
theorem ct_m_votes {w : Wd} (hij : ij LR w) (n : Nat) (x1 x2 x3 : Int) (hx1 : inR x1) (hx2 : inR x2) (hx3 : inR x3) {M : Mm} {r : Int} {M9 : Mm} (hF : f_m_votes n x1 x2 x3 M = some (r, M9)) : Ct LR w y_m_votes b_m_votes 4 (some .int) 10 228 1 [.ref (wa w 0), .int (i32 x1), .int (i32 x2), .int (i32 x3)] M r M9 := by
  refine Ct.of hij KstR (by decide +kernel) (Nat.le_of_ble_eq_true rfl) (fun X G0 => ?_)
  have G := G0.1
  show VJ LR w X 4 1 r M9 M [(0, .ref (wa w 0)), (1, .int (i32 x1)), (2, .int (i32 x2)), (3, .int (i32 x3))] [] 0
  unfold f_m_votes at hF
  refine vj_aload_n G (p9 := 0) d_m_votes_0 rfl rfl ?_
  refine vj_iload_n G (p9 := 1) d_m_votes_1 rfl rfl ?_
  obtain ⟨r1, M1, e1, hF⟩ := bnd_some hF
  refine vj_callV3 G (ct_m_isFirm (gx_ij G) n x1 hx1 e1) lkR_0 clR_0 rfl q_1555 cq_m_isFirm rfl (by decide) (by decide) (Nat.le_of_ble_eq_true rfl) d_m_votes_2 rfl (fun hr1 => ?_)
  refine vj_if_eq G (tgt := 24) d_m_votes_5 (by decide) (ir_b hr1) (fun c2 => ?_) (fun c2 => ?_)
  · rw [if_pos c2] at hF
    refine vj_iconst G (v := (-1)) d_m_votes_24 rfl ?_
    cases hF
    exact vj_iret G0 ic_m1 d_m_votes_25
  · rw [if_neg c2] at hF
    refine vj_aload_n G (p9 := 0) d_m_votes_8 rfl rfl ?_
    refine vj_iload_n G (p9 := 2) d_m_votes_9 rfl rfl ?_
    obtain ⟨r3, M3, e3, hF⟩ := bnd_some hF
    refine vj_callV3 G (ct_m_isHolder (gx_ij G) n x2 hx2 e3) lkR_0 clR_0 rfl q_1559 cq_m_isHolder rfl (by decide) (by decide) (Nat.le_of_ble_eq_true rfl) d_m_votes_10 rfl (fun hr3 => ?_)
    refine vj_if_eq G (tgt := 24) d_m_votes_13 (by decide) (ir_b hr3) (fun c4 => ?_) (fun c4 => ?_)
    · rw [if_pos c4] at hF
      refine vj_iconst G (v := (-1)) d_m_votes_24 rfl ?_
      cases hF
      exact vj_iret G0 ic_m1 d_m_votes_25
    · rw [if_neg c4] at hF
      refine vj_aload_n G (p9 := 0) d_m_votes_16 rfl rfl ?_
      refine vj_iload_n G (p9 := 3) d_m_votes_17 rfl rfl ?_
      obtain ⟨r5, M5, e5, hF⟩ := bnd_some hF
      refine vj_callV3 G (ct_m_isDay (gx_ij G) n x3 hx3 e5) lkR_0 clR_0 rfl q_1587 cq_m_isDay rfl (by decide) (by decide) (Nat.le_of_ble_eq_true rfl) d_m_votes_18 rfl (fun hr5 => ?_)
      refine vj_if_ne G (tgt := 26) d_m_votes_21 (by decide) (ir_b hr5) (fun c6 => ?_) (fun c6 => ?_)
      · rw [if_pos c6] at hF
        refine vj_aload_n G (p9 := 0) d_m_votes_26 rfl rfl ?_
        refine vj_iload_n G (p9 := 3) d_m_votes_27 rfl rfl ?_
        obtain ⟨r7, M7, e7, hF⟩ := bnd_some hF
        refine vj_callV0 G (ct_m_look (gx_ij G) n x3 hx3 e7) lkR_0 clR_0 rfl q_1672 cq_m_look rfl (by decide) (by decide) (Nat.le_of_ble_eq_true rfl) d_m_votes_28 rfl (fun hr7 => ?_)
        refine vj_aload_n G (p9 := 0) d_m_votes_31 rfl rfl ?_
        refine gfR_m_136 G d_m_votes_32 ?_
        refine vj_bipush G (v := 16) d_m_votes_35 rfl ?_
        refine vj_iload_n G (p9 := 1) d_m_votes_37 rfl rfl ?_
        refine vj_imul G d_m_votes_38 ?_
        refine vj_iload_n G (p9 := 2) d_m_votes_39 rfl rfl ?_
        refine vj_iadd G d_m_votes_40 ?_
        obtain ⟨c8, hF⟩ := ck_some hF
        refine vj_iald G (x := w32 ((w32 (16 * x1)) + x2)) lkR_24 (by decide) c8 d_m_votes_41 ?_
        refine vj_mr (fun hM9 => ?_)
        cases hF
        exact vj_iret G0 (mr_a hM9 lkR_24) d_m_votes_42
      · rw [if_neg c6] at hF
        refine vj_iconst G (v := (-1)) d_m_votes_24 rfl ?_
        cases hF
        exact vj_iret G0 ic_m1 d_m_votes_25
set_option maxHeartbeats 4000000 in
set_option maxRecDepth 100000 in
theorem wk_m_carries_105 {w : Wd} {X : Cx} {r : Int} {M9 : Mm} (G0 : Gx LR w X "WhoRulesModel" b_m_carries 6 0 0 (some .boolean)) (n : Nat) (M : Mm) (hF : f_m_carries_105 n  M = some (r, M9)) : VJ LR w X 6 3 r M9 M [] [] 105 := by
  have G := G0.1
  unfold f_m_carries_105 at hF
  refine vj_iconst G (v := 0) d_m_carries_105 rfl ?_
  cases hF
  exact vj_zret G0 (Or.inl rfl) d_m_carries_106
set_option maxHeartbeats 4000000 in
set_option maxRecDepth 100000 in
theorem wk_m_carries_42 {w : Wd} {X : Cx} {r : Int} {M9 : Mm} (G0 : Gx LR w X "WhoRulesModel" b_m_carries 6 0 0 (some .boolean)) (n : Nat) (k5 : Int → Int → Int → Int → Mm → Rr) (hk5 : ∀ (x1 x2 x3 x5 : Int) (hx1 : inR x1) (hx2 : inR x2) (hx3 : in64 x3) (hx5 : inR x5) (M : Mm), k5 x1 x2 x3 x5 M = some (r, M9) → VJ LR w X 6 3 r M9 M [(0, .ref (wa w 0)), (1, .int (i32 x1)), (2, .int (i32 x2)), (3, .long (i64 x3)), (5, .int (i32 x5))] [] 5) (x1 x2 x5 s0 s1 : Int) (hx1 : inR x1) (hx2 : inR x2) (hx5 : inR x5) (hs0 : in64 s0) (hs1 : in64 s1) (M : Mm) (hF : f_m_carries_42 n k5 x1 x2 x5 s0 s1 M = some (r, M9)) : VJ LR w X 6 3 r M9 M [(0, .ref (wa w 0)), (1, .int (i32 x1)), (2, .int (i32 x2)), (5, .int (i32 x5))] [.long (i64 s1), .long (i64 s0)] 42 := by
  have G := G0.1
  unfold f_m_carries_42 at hF
  refine vj_ladd G d_m_carries_42 ?_
  refine vj_lstore_n G (lv2 := [(3, .long (i64 (w64 (s0 + s1)))), (0, .ref (wa w 0)), (1, .int (i32 x1)), (2, .int (i32 x2)), (5, .int (i32 x5))]) d_m_carries_43 rfl (by decide) rfl ?_
  refine vj_iinc G (p9 := 4) (n := 1) (lv2 := [(5, .int (i32 (w32 (x5 + 1)))), (3, .long (i64 (w64 (s0 + s1)))), (0, .ref (wa w 0)), (1, .int (i32 x1)), (2, .int (i32 x2))]) d_m_carries_44 rfl (by decide) rfl ?_
  refine vj_goto G (tgt := 5) d_m_carries_47 (by decide) ?_
  refine vj_sub [2, 3, 4, 1, 0] rfl ?_
  exact hk5 x1 x2 (w64 (s0 + s1)) (w32 (x5 + 1)) hx1 hx2 (lr_w _) (ir_w _) _ hF
set_option maxHeartbeats 4000000 in
set_option maxRecDepth 100000 in
theorem wk_m_carries_5 {w : Wd} {X : Cx} {r : Int} {M9 : Mm} (G0 : Gx LR w X "WhoRulesModel" b_m_carries 6 0 0 (some .boolean)) (n : Nat) (k5 : Int → Int → Int → Int → Mm → Rr) (hk5 : ∀ (x1 x2 x3 x5 : Int) (hx1 : inR x1) (hx2 : inR x2) (hx3 : in64 x3) (hx5 : inR x5) (M : Mm), k5 x1 x2 x3 x5 M = some (r, M9) → VJ LR w X 6 3 r M9 M [(0, .ref (wa w 0)), (1, .int (i32 x1)), (2, .int (i32 x2)), (3, .long (i64 x3)), (5, .int (i32 x5))] [] 5) (x1 x2 x3 x5 : Int) (hx1 : inR x1) (hx2 : inR x2) (hx3 : in64 x3) (hx5 : inR x5) (M : Mm) (hF : f_m_carries_5 n k5 x1 x2 x3 x5 M = some (r, M9)) : VJ LR w X 6 3 r M9 M [(0, .ref (wa w 0)), (1, .int (i32 x1)), (2, .int (i32 x2)), (3, .long (i64 x3)), (5, .int (i32 x5))] [] 5 := by
  have G := G0.1
  unfold f_m_carries_5 at hF
  refine vj_iload G (p9 := 4) d_m_carries_5 rfl ?_
  refine vj_aload_n G (p9 := 0) d_m_carries_7 rfl rfl ?_
  refine gfR_m_13 G d_m_carries_8 ?_
  refine vj_mr (fun hM1 => ?_)
  refine vj_icmp_ge G (tgt := 50) d_m_carries_11 (by decide) hx5 (mr_o hM1 lkR_0 flR_0_1) (fun c2 => ?_) (fun c2 => ?_)
  · rw [if_pos c2] at hF
    refine vj_aload_n G (p9 := 0) d_m_carries_50 rfl rfl ?_
    refine gfR_m_145 G d_m_carries_51 ?_
    refine vj_iload_n G (p9 := 1) d_m_carries_54 rfl rfl ?_
    obtain ⟨c3, hF⟩ := ck_some hF
    refine vj_iald G (x := x1) lkR_27 (by decide) c3 d_m_carries_55 ?_
    refine vj_mr (fun hM4 => ?_)
    refine vj_i2l G d_m_carries_56 (mr_a hM4 lkR_27) ?_
    refine vj_lload_n G (p9 := 3) d_m_carries_57 rfl rfl ?_
    refine vj_lmul G d_m_carries_58 ?_
    refine vj_aload_n G (p9 := 0) d_m_carries_59 rfl rfl ?_
    refine gfR_m_142 G d_m_carries_60 ?_
    refine vj_iload_n G (p9 := 1) d_m_carries_63 rfl rfl ?_
    obtain ⟨c5, hF⟩ := ck_some hF
    refine vj_iald G (x := x1) lkR_26 (by decide) c5 d_m_carries_64 ?_
    refine vj_i2l G d_m_carries_65 (mr_a hM4 lkR_26) ?_
    refine vj_aload_n G (p9 := 0) d_m_carries_66 rfl rfl ?_
    refine gfR_m_139 G d_m_carries_67 ?_
    refine vj_iload_n G (p9 := 1) d_m_carries_70 rfl rfl ?_
    obtain ⟨c6, hF⟩ := ck_some hF
    refine vj_iald G (x := x1) lkR_25 (by decide) c6 d_m_carries_71 ?_
    refine vj_i2l G d_m_carries_72 (mr_a hM4 lkR_25) ?_
    refine vj_lmul G d_m_carries_73 ?_
    refine vj_lcmp_le G (tgt := 105) d_m_carries_74 d_m_carries_75 (by decide) (lr_w _) (lr_w _) (fun c7 => ?_) (fun c7 => ?_)
    · rw [if_pos c7] at hF
      refine vj_sub [] rfl ?_
      exact wk_m_carries_105 G0 n    _ hF
    · rw [if_neg c7] at hF
      refine vj_aload_n G (p9 := 0) d_m_carries_78 rfl rfl ?_
      refine gfR_m_148 G d_m_carries_79 ?_
      refine vj_iload_n G (p9 := 1) d_m_carries_82 rfl rfl ?_
      obtain ⟨c8, hF⟩ := ck_some hF
      refine vj_iald G (x := x1) lkR_28 (by decide) c8 d_m_carries_83 ?_
      refine vj_mr (fun hM9 => ?_)
      refine vj_if_lt G (tgt := 101) d_m_carries_84 (by decide) (mr_a hM9 lkR_28) (fun c10 => ?_) (fun c10 => ?_)
      · rw [if_pos c10] at hF
        refine vj_iconst G (v := 1) d_m_carries_101 rfl ?_
        refine vj_goto G (tgt := 106) d_m_carries_102 (by decide) ?_
        cases hF
        exact vj_zret G0 (Or.inr rfl) d_m_carries_106
      · rw [if_neg c10] at hF
        refine vj_iload_n G (p9 := 2) d_m_carries_87 rfl rfl ?_
        refine vj_aload_n G (p9 := 0) d_m_carries_88 rfl rfl ?_
        refine gfR_m_148 G d_m_carries_89 ?_
        refine vj_iload_n G (p9 := 1) d_m_carries_92 rfl rfl ?_
        obtain ⟨c11, hF⟩ := ck_some hF
        refine vj_iald G (x := x1) lkR_28 (by decide) c11 d_m_carries_93 ?_
        refine vj_mr (fun hM12 => ?_)
        refine vj_ishr G d_m_carries_94 ?_
        refine vj_iconst G (v := 1) d_m_carries_95 rfl ?_
        refine vj_iand G d_m_carries_96 ?_
        refine vj_iconst G (v := 1) d_m_carries_97 rfl ?_
        refine vj_icmp_ne G (tgt := 105) d_m_carries_98 (by decide) (ir_an _ _) ic_1 (fun c13 => ?_) (fun c13 => ?_)
        · rw [if_pos c13] at hF
          refine vj_sub [] rfl ?_
          exact wk_m_carries_105 G0 n    _ hF
        · rw [if_neg c13] at hF
          refine vj_iconst G (v := 1) d_m_carries_101 rfl ?_
          refine vj_goto G (tgt := 106) d_m_carries_102 (by decide) ?_
          cases hF
          exact vj_zret G0 (Or.inr rfl) d_m_carries_106
  · rw [if_neg c2] at hF
    refine vj_lload_n G (p9 := 3) d_m_carries_14 rfl rfl ?_
    refine vj_iload_n G (p9 := 2) d_m_carries_15 rfl rfl ?_
    refine vj_iload G (p9 := 4) d_m_carries_16 rfl ?_
    refine vj_ishr G d_m_carries_18 ?_
    refine vj_iconst G (v := 1) d_m_carries_19 rfl ?_
    refine vj_iand G d_m_carries_20 ?_
    refine vj_iconst G (v := 1) d_m_carries_21 rfl ?_
    refine vj_icmp_ne G (tgt := 41) d_m_carries_22 (by decide) (ir_an _ _) ic_1 (fun c14 => ?_) (fun c14 => ?_)
    · rw [if_pos c14] at hF
      refine vj_lconst G (v := 0) d_m_carries_41 rfl ?_
      refine vj_sub [0, 1, 2, 4] rfl ?_
      exact wk_m_carries_42 G0 n k5 hk5 x1 x2 x5 x3 0 hx1 hx2 hx5 hx3 (lr_i ic_0) _ hF
    · rw [if_neg c14] at hF
      refine vj_aload_n G (p9 := 0) d_m_carries_25 rfl rfl ?_
      refine gfR_m_136 G d_m_carries_26 ?_
      refine vj_bipush G (v := 16) d_m_carries_29 rfl ?_
      refine vj_iload_n G (p9 := 1) d_m_carries_31 rfl rfl ?_
      refine vj_imul G d_m_carries_32 ?_
      refine vj_iload G (p9 := 4) d_m_carries_33 rfl ?_
      refine vj_iadd G d_m_carries_35 ?_
      obtain ⟨c15, hF⟩ := ck_some hF
      refine vj_iald G (x := w32 ((w32 (16 * x1)) + x5)) lkR_24 (by decide) c15 d_m_carries_36 ?_
      refine vj_mr (fun hM16 => ?_)
      refine vj_i2l G d_m_carries_37 (mr_a hM16 lkR_24) ?_
      refine vj_goto G (tgt := 42) d_m_carries_38 (by decide) ?_
      refine vj_sub [0, 1, 2, 4] rfl ?_
      exact wk_m_carries_42 G0 n k5 hk5 x1 x2 x5 x3 (M 24 (w32 ((w32 (16 * x1)) + x5)).toNat) hx1 hx2 hx5 hx3 (lr_i (mr_a hM16 lkR_24)) _ hF
set_option maxHeartbeats 4000000 in
set_option maxRecDepth 100000 in
theorem wl_m_carries_5 {w : Wd} {X : Cx} {r : Int} {M9 : Mm} (G0 : Gx LR w X "WhoRulesModel" b_m_carries 6 0 0 (some .boolean)) (n : Nat) : ∀ (f : Nat) (x1 x2 x3 x5 : Int) (hx1 : inR x1) (hx2 : inR x2) (hx3 : in64 x3) (hx5 : inR x5) (M : Mm), lp_m_carries_5 n f x1 x2 x3 x5 M = some (r, M9) → VJ LR w X 6 3 r M9 M [(0, .ref (wa w 0)), (1, .int (i32 x1)), (2, .int (i32 x2)), (3, .long (i64 x3)), (5, .int (i32 x5))] [] 5 := by
  intro f
  induction f with
  | zero => intro x1 x2 x3 x5 hx1 hx2 hx3 hx5 M hF; cases hF
  | succ f ih => intro x1 x2 x3 x5 hx1 hx2 hx3 hx5 M hF; exact wk_m_carries_5 G0 n (lp_m_carries_5 n f) ih x1 x2 x3 x5 hx1 hx2 hx3 hx5 M hF
set_option maxHeartbeats 4000000 in
set_option maxRecDepth 100000 in
theorem ct_m_carries {w : Wd} (hij : ij LR w) (n : Nat) (x1 x2 : Int) (hx1 : inR x1) (hx2 : inR x2) {M : Mm} {r : Int} {M9 : Mm} (hF : f_m_carries n x1 x2 M = some (r, M9)) : Ct LR w y_m_carries b_m_carries 6 (some .boolean) 0 0 3 [.ref (wa w 0), .int (i32 x1), .int (i32 x2)] M r M9 := by
  refine Ct.of hij KstR (by decide +kernel) (Nat.le_of_ble_eq_true rfl) (fun X G0 => ?_)
  have G := G0.1
  show VJ LR w X 6 3 r M9 M [(0, .ref (wa w 0)), (1, .int (i32 x1)), (2, .int (i32 x2))] [] 0
  unfold f_m_carries at hF
  refine vj_lconst G (v := 0) d_m_carries_0 rfl ?_
  refine vj_lstore_n G (lv2 := [(3, .long (i64 0)), (0, .ref (wa w 0)), (1, .int (i32 x1)), (2, .int (i32 x2))]) d_m_carries_1 rfl (by decide) rfl ?_
  refine vj_iconst G (v := 0) d_m_carries_2 rfl ?_
  refine vj_istore G (lv2 := [(5, .int (i32 0)), (3, .long (i64 0)), (0, .ref (wa w 0)), (1, .int (i32 x1)), (2, .int (i32 x2))]) d_m_carries_3 (by decide) rfl ?_
  refine vj_sub [2, 3, 4, 1, 0] rfl ?_
  exact wl_m_carries_5 G0 n  n x1 x2 0 0 hx1 hx2 (lr_i ic_0) ic_0 _ hF
set_option maxHeartbeats 4000000 in
set_option maxRecDepth 100000 in
theorem ct_m_carry {w : Wd} (hij : ij LR w) (n : Nat) (x1 x2 x3 : Int) (hx1 : inR x1) (hx2 : inR x2) (hx3 : inR x3) {M : Mm} {r : Int} {M9 : Mm} (hF : f_m_carry n x1 x2 x3 M = some (r, M9)) : Ct LR w y_m_carry b_m_carry 4 (some .int) 10 228 1 [.ref (wa w 0), .int (i32 x1), .int (i32 x2), .int (i32 x3)] M r M9 := by
  refine Ct.of hij KstR (by decide +kernel) (Nat.le_of_ble_eq_true rfl) (fun X G0 => ?_)
  have G := G0.1
  show VJ LR w X 4 1 r M9 M [(0, .ref (wa w 0)), (1, .int (i32 x1)), (2, .int (i32 x2)), (3, .int (i32 x3))] [] 0
  unfold f_m_carry at hF
  refine vj_aload_n G (p9 := 0) d_m_carry_0 rfl rfl ?_
  refine vj_iload_n G (p9 := 1) d_m_carry_1 rfl rfl ?_
  obtain ⟨r1, M1, e1, hF⟩ := bnd_some hF
  refine vj_callV3 G (ct_m_isFirm (gx_ij G) n x1 hx1 e1) lkR_0 clR_0 rfl q_1555 cq_m_isFirm rfl (by decide) (by decide) (Nat.le_of_ble_eq_true rfl) d_m_carry_2 rfl (fun hr1 => ?_)
  refine vj_if_eq G (tgt := 16) d_m_carry_5 (by decide) (ir_b hr1) (fun c2 => ?_) (fun c2 => ?_)
  · rw [if_pos c2] at hF
    refine vj_iconst G (v := (-1)) d_m_carry_16 rfl ?_
    cases hF
    exact vj_iret G0 ic_m1 d_m_carry_17
  · rw [if_neg c2] at hF
    refine vj_aload_n G (p9 := 0) d_m_carry_8 rfl rfl ?_
    refine vj_iload_n G (p9 := 3) d_m_carry_9 rfl rfl ?_
    obtain ⟨r3, M3, e3, hF⟩ := bnd_some hF
    refine vj_callV3 G (ct_m_isDay (gx_ij G) n x3 hx3 e3) lkR_0 clR_0 rfl q_1587 cq_m_isDay rfl (by decide) (by decide) (Nat.le_of_ble_eq_true rfl) d_m_carry_10 rfl (fun hr3 => ?_)
    refine vj_if_ne G (tgt := 18) d_m_carry_13 (by decide) (ir_b hr3) (fun c4 => ?_) (fun c4 => ?_)
    · rw [if_pos c4] at hF
      refine vj_aload_n G (p9 := 0) d_m_carry_18 rfl rfl ?_
      refine vj_iload_n G (p9 := 2) d_m_carry_19 rfl rfl ?_
      refine vj_iconst G (v := 0) d_m_carry_20 rfl ?_
      refine vj_iconst G (v := 1) d_m_carry_21 rfl ?_
      refine vj_aload_n G (p9 := 0) d_m_carry_22 rfl rfl ?_
      refine gfR_m_13 G d_m_carry_23 ?_
      refine vj_mr (fun hM5 => ?_)
      refine vj_ishl G d_m_carry_26 ?_
      refine vj_iconst G (v := 1) d_m_carry_27 rfl ?_
      refine vj_isub G d_m_carry_28 ?_
      obtain ⟨r6, M6, e6, hF⟩ := bnd_some hF
      refine vj_callV3 G (ct_m_in (gx_ij G) n x2 0 (w32 ((ish 1 (M3 0 1)) - 1)) hx2 ic_0 (ir_w _) e6) lkR_0 clR_0 rfl q_1543 cq_m_in rfl (by decide) (by decide) (Nat.le_of_ble_eq_true rfl) d_m_carry_29 rfl (fun hr6 => ?_)
      refine vj_if_ne G (tgt := 38) d_m_carry_32 (by decide) (ir_b hr6) (fun c7 => ?_) (fun c7 => ?_)
      · rw [if_pos c7] at hF
        refine vj_aload_n G (p9 := 0) d_m_carry_38 rfl rfl ?_
        refine vj_iload_n G (p9 := 3) d_m_carry_39 rfl rfl ?_
        obtain ⟨r8, M8, e8, hF⟩ := bnd_some hF
        refine vj_callV0 G (ct_m_look (gx_ij G) n x3 hx3 e8) lkR_0 clR_0 rfl q_1672 cq_m_look rfl (by decide) (by decide) (Nat.le_of_ble_eq_true rfl) d_m_carry_40 rfl (fun hr8 => ?_)
        refine vj_aload_n G (p9 := 0) d_m_carry_43 rfl rfl ?_
        refine vj_iload_n G (p9 := 1) d_m_carry_44 rfl rfl ?_
        refine vj_iload_n G (p9 := 2) d_m_carry_45 rfl rfl ?_
        obtain ⟨r9, M9, e9, hF⟩ := bnd_some hF
        refine vj_callV3 G (ct_m_carries (gx_ij G) n x1 x2 hx1 hx2 e9) lkR_0 clR_0 rfl q_1688 cq_m_carries rfl (by decide) (by decide) (Nat.le_of_ble_eq_true rfl) d_m_carry_46 rfl (fun hr9 => ?_)
        refine vj_if_eq G (tgt := 56) d_m_carry_49 (by decide) (ir_b hr9) (fun c10 => ?_) (fun c10 => ?_)
        · rw [if_pos c10] at hF
          refine vj_iconst G (v := 0) d_m_carry_56 rfl ?_
          cases hF
          exact vj_iret G0 ic_0 d_m_carry_57
        · rw [if_neg c10] at hF
          refine vj_iconst G (v := 1) d_m_carry_52 rfl ?_
          refine vj_goto G (tgt := 57) d_m_carry_53 (by decide) ?_
          cases hF
          exact vj_iret G0 ic_1 d_m_carry_57
      · rw [if_neg c7] at hF
        refine vj_bipush G (v := (-2)) d_m_carry_35 rfl ?_
        cases hF
        exact vj_iret G0 ic_m2 d_m_carry_37
    · rw [if_neg c4] at hF
      refine vj_iconst G (v := (-1)) d_m_carry_16 rfl ?_
      cases hF
      exact vj_iret G0 ic_m1 d_m_carry_17
set_option maxHeartbeats 4000000 in
set_option maxRecDepth 100000 in
theorem wk_m_leastKin_27 {w : Wd} {X : Cx} {r : Int} {M9 : Mm} (G0 : Gx LR w X "WhoRulesModel" b_m_leastKin 3 0 0 (some .int)) (n : Nat) (k2 : Int → Int → Mm → Rr) (hk2 : ∀ (x1 x2 : Int) (hx1 : inR x1) (hx2 : inR x2) (M : Mm), k2 x1 x2 M = some (r, M9) → VJ LR w X 3 1 r M9 M [(0, .ref (wa w 0)), (1, .int (i32 x1)), (2, .int (i32 x2))] [] 2) (x1 x2 : Int) (hx1 : inR x1) (hx2 : inR x2) (M : Mm) (hF : f_m_leastKin_27 n k2 x1 x2 M = some (r, M9)) : VJ LR w X 3 1 r M9 M [(0, .ref (wa w 0)), (1, .int (i32 x1)), (2, .int (i32 x2))] [] 27 := by
  have G := G0.1
  unfold f_m_leastKin_27 at hF
  refine vj_iinc G (p9 := 2) (n := 1) (lv2 := [(2, .int (i32 (w32 (x2 + 1)))), (0, .ref (wa w 0)), (1, .int (i32 x1))]) d_m_leastKin_27 rfl (by decide) rfl ?_
  refine vj_goto G (tgt := 2) d_m_leastKin_30 (by decide) ?_
  refine vj_sub [1, 2, 0] rfl ?_
  exact hk2 x1 (w32 (x2 + 1)) hx1 (ir_w _) _ hF
set_option maxHeartbeats 4000000 in
set_option maxRecDepth 100000 in
theorem wk_m_leastKin_2 {w : Wd} {X : Cx} {r : Int} {M9 : Mm} (G0 : Gx LR w X "WhoRulesModel" b_m_leastKin 3 0 0 (some .int)) (n : Nat) (k2 : Int → Int → Mm → Rr) (hk2 : ∀ (x1 x2 : Int) (hx1 : inR x1) (hx2 : inR x2) (M : Mm), k2 x1 x2 M = some (r, M9) → VJ LR w X 3 1 r M9 M [(0, .ref (wa w 0)), (1, .int (i32 x1)), (2, .int (i32 x2))] [] 2) (x1 x2 : Int) (hx1 : inR x1) (hx2 : inR x2) (M : Mm) (hF : f_m_leastKin_2 n k2 x1 x2 M = some (r, M9)) : VJ LR w X 3 1 r M9 M [(0, .ref (wa w 0)), (1, .int (i32 x1)), (2, .int (i32 x2))] [] 2 := by
  have G := G0.1
  unfold f_m_leastKin_2 at hF
  refine vj_aload_n G (p9 := 0) d_m_leastKin_2 rfl rfl ?_
  refine gfR_m_25 G d_m_leastKin_3 ?_
  refine vj_iload_n G (p9 := 2) d_m_leastKin_6 rfl rfl ?_
  obtain ⟨c1, hF⟩ := ck_some hF
  refine vj_iald G (x := x2) lkR_1 (by decide) c1 d_m_leastKin_7 ?_
  refine vj_mr (fun hM2 => ?_)
  refine vj_iconst G (v := 3) d_m_leastKin_8 rfl ?_
  refine vj_icmp_ne G (tgt := 27) d_m_leastKin_9 (by decide) (mr_a hM2 lkR_1) ic_3 (fun c3 => ?_) (fun c3 => ?_)
  · rw [if_pos c3] at hF
    exact wk_m_leastKin_27 G0 n k2 hk2 x1 x2 hx1 hx2 _ hF
  · rw [if_neg c3] at hF
    refine vj_aload_n G (p9 := 0) d_m_leastKin_12 rfl rfl ?_
    refine gfR_m_29 G d_m_leastKin_13 ?_
    refine vj_iload_n G (p9 := 2) d_m_leastKin_16 rfl rfl ?_
    obtain ⟨c4, hF⟩ := ck_some hF
    refine vj_iald G (x := x2) lkR_2 (by decide) c4 d_m_leastKin_17 ?_
    refine vj_mr (fun hM5 => ?_)
    refine vj_aload_n G (p9 := 0) d_m_leastKin_18 rfl rfl ?_
    refine gfR_m_29 G d_m_leastKin_19 ?_
    refine vj_iload_n G (p9 := 1) d_m_leastKin_22 rfl rfl ?_
    obtain ⟨c6, hF⟩ := ck_some hF
    refine vj_iald G (x := x1) lkR_2 (by decide) c6 d_m_leastKin_23 ?_
    refine vj_icmp_eq G (tgt := 33) d_m_leastKin_24 (by decide) (mr_a hM5 lkR_2) (mr_a hM5 lkR_2) (fun c7 => ?_) (fun c7 => ?_)
    · rw [if_pos c7] at hF
      refine vj_iload_n G (p9 := 2) d_m_leastKin_33 rfl rfl ?_
      cases hF
      exact vj_iret G0 hx2 d_m_leastKin_34
    · rw [if_neg c7] at hF
      exact wk_m_leastKin_27 G0 n k2 hk2 x1 x2 hx1 hx2 _ hF
set_option maxHeartbeats 4000000 in
set_option maxRecDepth 100000 in
theorem wl_m_leastKin_2 {w : Wd} {X : Cx} {r : Int} {M9 : Mm} (G0 : Gx LR w X "WhoRulesModel" b_m_leastKin 3 0 0 (some .int)) (n : Nat) : ∀ (f : Nat) (x1 x2 : Int) (hx1 : inR x1) (hx2 : inR x2) (M : Mm), lp_m_leastKin_2 n f x1 x2 M = some (r, M9) → VJ LR w X 3 1 r M9 M [(0, .ref (wa w 0)), (1, .int (i32 x1)), (2, .int (i32 x2))] [] 2 := by
  intro f
  induction f with
  | zero => intro x1 x2 hx1 hx2 M hF; cases hF
  | succ f ih => intro x1 x2 hx1 hx2 M hF; exact wk_m_leastKin_2 G0 n (lp_m_leastKin_2 n f) ih x1 x2 hx1 hx2 M hF
set_option maxHeartbeats 4000000 in
set_option maxRecDepth 100000 in
theorem ct_m_leastKin {w : Wd} (hij : ij LR w) (n : Nat) (x1 : Int) (hx1 : inR x1) {M : Mm} {r : Int} {M9 : Mm} (hF : f_m_leastKin n x1 M = some (r, M9)) : Ct LR w y_m_leastKin b_m_leastKin 3 (some .int) 0 0 1 [.ref (wa w 0), .int (i32 x1)] M r M9 := by
  refine Ct.of hij KstR (by decide +kernel) (Nat.le_of_ble_eq_true rfl) (fun X G0 => ?_)
  have G := G0.1
  show VJ LR w X 3 1 r M9 M [(0, .ref (wa w 0)), (1, .int (i32 x1))] [] 0
  unfold f_m_leastKin at hF
  refine vj_iconst G (v := 0) d_m_leastKin_0 rfl ?_
  refine vj_istore_n G (lv2 := [(2, .int (i32 0)), (0, .ref (wa w 0)), (1, .int (i32 x1))]) d_m_leastKin_1 rfl (by decide) rfl ?_
  refine vj_sub [1, 2, 0] rfl ?_
  exact wl_m_leastKin_2 G0 n  n x1 0 hx1 ic_0 _ hF
set_option maxHeartbeats 4000000 in
set_option maxRecDepth 100000 in
theorem wk_m_isRuler_41 {w : Wd} {X : Cx} {r : Int} {M9 : Mm} (G0 : Gx LR w X "WhoRulesModel" b_m_isRuler 2 2 44 (some .boolean)) (n : Nat) (M : Mm) (hF : f_m_isRuler_41 n  M = some (r, M9)) : VJ LR w X 2 3 r M9 M [] [] 41 := by
  have G := G0.1
  unfold f_m_isRuler_41 at hF
  refine vj_iconst G (v := 0) d_m_isRuler_41 rfl ?_
  cases hF
  exact vj_zret G0 (Or.inl rfl) d_m_isRuler_42
set_option maxHeartbeats 4000000 in
set_option maxRecDepth 100000 in
theorem ct_m_isRuler {w : Wd} (hij : ij LR w) (n : Nat) (x1 : Int) (hx1 : inR x1) {M : Mm} {r : Int} {M9 : Mm} (hF : f_m_isRuler n x1 M = some (r, M9)) : Ct LR w y_m_isRuler b_m_isRuler 2 (some .boolean) 2 44 3 [.ref (wa w 0), .int (i32 x1)] M r M9 := by
  refine Ct.of hij KstR (by decide +kernel) (Nat.le_of_ble_eq_true rfl) (fun X G0 => ?_)
  have G := G0.1
  show VJ LR w X 2 3 r M9 M [(0, .ref (wa w 0)), (1, .int (i32 x1))] [] 0
  unfold f_m_isRuler at hF
  refine vj_aload_n G (p9 := 0) d_m_isRuler_0 rfl rfl ?_
  refine vj_iload_n G (p9 := 1) d_m_isRuler_1 rfl rfl ?_
  obtain ⟨r1, M1, e1, hF⟩ := bnd_some hF
  refine vj_callV3 G (ct_m_isHolder (gx_ij G) n x1 hx1 e1) lkR_0 clR_0 rfl q_1559 cq_m_isHolder rfl (by decide) (by decide) (Nat.le_of_ble_eq_true rfl) d_m_isRuler_2 rfl (fun hr1 => ?_)
  refine vj_if_eq G (tgt := 41) d_m_isRuler_5 (by decide) (ir_b hr1) (fun c2 => ?_) (fun c2 => ?_)
  · rw [if_pos c2] at hF
    refine vj_sub [] rfl ?_
    exact wk_m_isRuler_41 G0 n    _ hF
  · rw [if_neg c2] at hF
    refine vj_aload_n G (p9 := 0) d_m_isRuler_8 rfl rfl ?_
    refine gfR_m_25 G d_m_isRuler_9 ?_
    refine vj_iload_n G (p9 := 1) d_m_isRuler_12 rfl rfl ?_
    obtain ⟨c3, hF⟩ := ck_some hF
    refine vj_iald G (x := x1) lkR_1 (by decide) c3 d_m_isRuler_13 ?_
    refine vj_mr (fun hM4 => ?_)
    refine vj_iconst G (v := 2) d_m_isRuler_14 rfl ?_
    refine vj_icmp_eq G (tgt := 37) d_m_isRuler_15 (by decide) (mr_a hM4 lkR_1) ic_2 (fun c5 => ?_) (fun c5 => ?_)
    · rw [if_pos c5] at hF
      refine vj_iconst G (v := 1) d_m_isRuler_37 rfl ?_
      refine vj_goto G (tgt := 42) d_m_isRuler_38 (by decide) ?_
      cases hF
      exact vj_zret G0 (Or.inr rfl) d_m_isRuler_42
    · rw [if_neg c5] at hF
      refine vj_aload_n G (p9 := 0) d_m_isRuler_18 rfl rfl ?_
      refine gfR_m_25 G d_m_isRuler_19 ?_
      refine vj_iload_n G (p9 := 1) d_m_isRuler_22 rfl rfl ?_
      obtain ⟨c6, hF⟩ := ck_some hF
      refine vj_iald G (x := x1) lkR_1 (by decide) c6 d_m_isRuler_23 ?_
      refine vj_mr (fun hM7 => ?_)
      refine vj_iconst G (v := 3) d_m_isRuler_24 rfl ?_
      refine vj_icmp_ne G (tgt := 41) d_m_isRuler_25 (by decide) (mr_a hM7 lkR_1) ic_3 (fun c8 => ?_) (fun c8 => ?_)
      · rw [if_pos c8] at hF
        refine vj_sub [] rfl ?_
        exact wk_m_isRuler_41 G0 n    _ hF
      · rw [if_neg c8] at hF
        refine vj_aload_n G (p9 := 0) d_m_isRuler_28 rfl rfl ?_
        refine vj_iload_n G (p9 := 1) d_m_isRuler_29 rfl rfl ?_
        obtain ⟨r9, M9, e9, hF⟩ := bnd_some hF
        refine vj_callV1 G (ct_m_leastKin (gx_ij G) n x1 hx1 e9) lkR_0 clR_0 rfl q_1712 cq_m_leastKin rfl (by decide) (by decide) (Nat.le_of_ble_eq_true rfl) d_m_isRuler_30 rfl (fun hr9 => ?_)
        refine vj_iload_n G (p9 := 1) d_m_isRuler_33 rfl rfl ?_
        refine vj_icmp_ne G (tgt := 41) d_m_isRuler_34 (by decide) hr9 hx1 (fun c10 => ?_) (fun c10 => ?_)
        · rw [if_pos c10] at hF
          refine vj_sub [] rfl ?_
          exact wk_m_isRuler_41 G0 n    _ hF
        · rw [if_neg c10] at hF
          refine vj_iconst G (v := 1) d_m_isRuler_37 rfl ?_
          refine vj_goto G (tgt := 42) d_m_isRuler_38 (by decide) ?_
          cases hF
          exact vj_zret G0 (Or.inr rfl) d_m_isRuler_42
set_option maxHeartbeats 4000000 in
set_option maxRecDepth 100000 in
theorem wk_m_groupOf_77 {w : Wd} {X : Cx} {r : Int} {M9 : Mm} (G0 : Gx LR w X "WhoRulesModel" b_m_groupOf 4 0 0 (some .int)) (n : Nat) (k6 : Int → Int → Int → Mm → Rr) (hk6 : ∀ (x1 x2 x3 : Int) (hx1 : inR x1) (hx2 : inR x2) (hx3 : inR x3) (M : Mm), k6 x1 x2 x3 M = some (r, M9) → VJ LR w X 4 1 r M9 M [(0, .ref (wa w 0)), (1, .int (i32 x1)), (2, .int (i32 x2)), (3, .int (i32 x3))] [] 6) (x1 x3 s0 s1 : Int) (hx1 : inR x1) (hx3 : inR x3) (hs0 : inR s0) (hs1 : inR s1) (M : Mm) (hF : f_m_groupOf_77 n k6 x1 x3 s0 s1 M = some (r, M9)) : VJ LR w X 4 1 r M9 M [(0, .ref (wa w 0)), (1, .int (i32 x1)), (3, .int (i32 x3))] [.int (i32 s1), .int (i32 s0)] 77 := by
  have G := G0.1
  unfold f_m_groupOf_77 at hF
  refine vj_ior G d_m_groupOf_77 ?_
  refine vj_istore_n G (lv2 := [(2, .int (i32 (ior s0 s1))), (0, .ref (wa w 0)), (1, .int (i32 x1)), (3, .int (i32 x3))]) d_m_groupOf_78 rfl (by decide) rfl ?_
  refine vj_iinc G (p9 := 3) (n := 1) (lv2 := [(3, .int (i32 (w32 (x3 + 1)))), (2, .int (i32 (ior s0 s1))), (0, .ref (wa w 0)), (1, .int (i32 x1))]) d_m_groupOf_79 rfl (by decide) rfl ?_
  refine vj_goto G (tgt := 6) d_m_groupOf_82 (by decide) ?_
  refine vj_sub [2, 3, 1, 0] rfl ?_
  exact hk6 x1 (ior s0 s1) (w32 (x3 + 1)) hx1 (ir_or _ _) (ir_w _) _ hF
set_option maxHeartbeats 4000000 in
set_option maxRecDepth 100000 in
theorem wk_m_groupOf_76 {w : Wd} {X : Cx} {r : Int} {M9 : Mm} (G0 : Gx LR w X "WhoRulesModel" b_m_groupOf 4 0 0 (some .int)) (n : Nat) (k6 : Int → Int → Int → Mm → Rr) (hk6 : ∀ (x1 x2 x3 : Int) (hx1 : inR x1) (hx2 : inR x2) (hx3 : inR x3) (M : Mm), k6 x1 x2 x3 M = some (r, M9) → VJ LR w X 4 1 r M9 M [(0, .ref (wa w 0)), (1, .int (i32 x1)), (2, .int (i32 x2)), (3, .int (i32 x3))] [] 6) (x1 x3 s0 : Int) (hx1 : inR x1) (hx3 : inR x3) (hs0 : inR s0) (M : Mm) (hF : f_m_groupOf_76 n k6 x1 x3 s0 M = some (r, M9)) : VJ LR w X 4 1 r M9 M [(0, .ref (wa w 0)), (1, .int (i32 x1)), (3, .int (i32 x3))] [.int (i32 s0)] 76 := by
  have G := G0.1
  unfold f_m_groupOf_76 at hF
  refine vj_iconst G (v := 0) d_m_groupOf_76 rfl ?_
  exact wk_m_groupOf_77 G0 n k6 hk6 x1 x3 s0 0 hx1 hx3 hs0 ic_0 _ hF
set_option maxHeartbeats 4000000 in
set_option maxRecDepth 100000 in
theorem wk_m_groupOf_70 {w : Wd} {X : Cx} {r : Int} {M9 : Mm} (G0 : Gx LR w X "WhoRulesModel" b_m_groupOf 4 0 0 (some .int)) (n : Nat) (k6 : Int → Int → Int → Mm → Rr) (hk6 : ∀ (x1 x2 x3 : Int) (hx1 : inR x1) (hx2 : inR x2) (hx3 : inR x3) (M : Mm), k6 x1 x2 x3 M = some (r, M9) → VJ LR w X 4 1 r M9 M [(0, .ref (wa w 0)), (1, .int (i32 x1)), (2, .int (i32 x2)), (3, .int (i32 x3))] [] 6) (x1 x3 s0 : Int) (hx1 : inR x1) (hx3 : inR x3) (hs0 : inR s0) (M : Mm) (hF : f_m_groupOf_70 n k6 x1 x3 s0 M = some (r, M9)) : VJ LR w X 4 1 r M9 M [(0, .ref (wa w 0)), (1, .int (i32 x1)), (3, .int (i32 x3))] [.int (i32 s0)] 70 := by
  have G := G0.1
  unfold f_m_groupOf_70 at hF
  refine vj_iconst G (v := 1) d_m_groupOf_70 rfl ?_
  refine vj_iload_n G (p9 := 2) d_m_groupOf_71 rfl rfl ?_
  refine vj_ishl G d_m_groupOf_72 ?_
  refine vj_goto G (tgt := 77) d_m_groupOf_73 (by decide) ?_
  exact wk_m_groupOf_77 G0 n k6 hk6 x1 x3 s0 (ish 1 x3) hx1 hx3 hs0 (ir_sh _ _) _ hF
set_option maxHeartbeats 4000000 in
set_option maxRecDepth 100000 in
theorem wk_m_groupOf_35 {w : Wd} {X : Cx} {r : Int} {M9 : Mm} (G0 : Gx LR w X "WhoRulesModel" b_m_groupOf 4 0 0 (some .int)) (n : Nat) (k6 : Int → Int → Int → Mm → Rr) (hk6 : ∀ (x1 x2 x3 : Int) (hx1 : inR x1) (hx2 : inR x2) (hx3 : inR x3) (M : Mm), k6 x1 x2 x3 M = some (r, M9) → VJ LR w X 4 1 r M9 M [(0, .ref (wa w 0)), (1, .int (i32 x1)), (2, .int (i32 x2)), (3, .int (i32 x3))] [] 6) (x1 x3 s0 : Int) (hx1 : inR x1) (hx3 : inR x3) (hs0 : inR s0) (M : Mm) (hF : f_m_groupOf_35 n k6 x1 x3 s0 M = some (r, M9)) : VJ LR w X 4 1 r M9 M [(0, .ref (wa w 0)), (1, .int (i32 x1)), (3, .int (i32 x3))] [.int (i32 s0)] 35 := by
  have G := G0.1
  unfold f_m_groupOf_35 at hF
  refine vj_aload_n G (p9 := 0) d_m_groupOf_35 rfl rfl ?_
  refine gfR_m_25 G d_m_groupOf_36 ?_
  refine vj_iload_n G (p9 := 2) d_m_groupOf_39 rfl rfl ?_
  obtain ⟨c1, hF⟩ := ck_some hF
  refine vj_iald G (x := x3) lkR_1 (by decide) c1 d_m_groupOf_40 ?_
  refine vj_mr (fun hM2 => ?_)
  refine vj_iconst G (v := 3) d_m_groupOf_41 rfl ?_
  refine vj_icmp_ne G (tgt := 76) d_m_groupOf_42 (by decide) (mr_a hM2 lkR_1) ic_3 (fun c3 => ?_) (fun c3 => ?_)
  · rw [if_pos c3] at hF
    exact wk_m_groupOf_76 G0 n k6 hk6 x1 x3 s0 hx1 hx3 hs0 _ hF
  · rw [if_neg c3] at hF
    refine vj_aload_n G (p9 := 0) d_m_groupOf_45 rfl rfl ?_
    refine gfR_m_25 G d_m_groupOf_46 ?_
    refine vj_iload_n G (p9 := 1) d_m_groupOf_49 rfl rfl ?_
    obtain ⟨c4, hF⟩ := ck_some hF
    refine vj_iald G (x := x1) lkR_1 (by decide) c4 d_m_groupOf_50 ?_
    refine vj_mr (fun hM5 => ?_)
    refine vj_iconst G (v := 3) d_m_groupOf_51 rfl ?_
    refine vj_icmp_ne G (tgt := 76) d_m_groupOf_52 (by decide) (mr_a hM5 lkR_1) ic_3 (fun c6 => ?_) (fun c6 => ?_)
    · rw [if_pos c6] at hF
      exact wk_m_groupOf_76 G0 n k6 hk6 x1 x3 s0 hx1 hx3 hs0 _ hF
    · rw [if_neg c6] at hF
      refine vj_aload_n G (p9 := 0) d_m_groupOf_55 rfl rfl ?_
      refine gfR_m_29 G d_m_groupOf_56 ?_
      refine vj_iload_n G (p9 := 2) d_m_groupOf_59 rfl rfl ?_
      obtain ⟨c7, hF⟩ := ck_some hF
      refine vj_iald G (x := x3) lkR_2 (by decide) c7 d_m_groupOf_60 ?_
      refine vj_mr (fun hM8 => ?_)
      refine vj_aload_n G (p9 := 0) d_m_groupOf_61 rfl rfl ?_
      refine gfR_m_29 G d_m_groupOf_62 ?_
      refine vj_iload_n G (p9 := 1) d_m_groupOf_65 rfl rfl ?_
      obtain ⟨c9, hF⟩ := ck_some hF
      refine vj_iald G (x := x1) lkR_2 (by decide) c9 d_m_groupOf_66 ?_
      refine vj_icmp_ne G (tgt := 76) d_m_groupOf_67 (by decide) (mr_a hM8 lkR_2) (mr_a hM8 lkR_2) (fun c10 => ?_) (fun c10 => ?_)
      · rw [if_pos c10] at hF
        exact wk_m_groupOf_76 G0 n k6 hk6 x1 x3 s0 hx1 hx3 hs0 _ hF
      · rw [if_neg c10] at hF
        exact wk_m_groupOf_70 G0 n k6 hk6 x1 x3 s0 hx1 hx3 hs0 _ hF
set_option maxHeartbeats 4000000 in
set_option maxRecDepth 100000 in
theorem wk_m_groupOf_6 {w : Wd} {X : Cx} {r : Int} {M9 : Mm} (G0 : Gx LR w X "WhoRulesModel" b_m_groupOf 4 0 0 (some .int)) (n : Nat) (k6 : Int → Int → Int → Mm → Rr) (hk6 : ∀ (x1 x2 x3 : Int) (hx1 : inR x1) (hx2 : inR x2) (hx3 : inR x3) (M : Mm), k6 x1 x2 x3 M = some (r, M9) → VJ LR w X 4 1 r M9 M [(0, .ref (wa w 0)), (1, .int (i32 x1)), (2, .int (i32 x2)), (3, .int (i32 x3))] [] 6) (x1 x2 x3 : Int) (hx1 : inR x1) (hx2 : inR x2) (hx3 : inR x3) (M : Mm) (hF : f_m_groupOf_6 n k6 x1 x2 x3 M = some (r, M9)) : VJ LR w X 4 1 r M9 M [(0, .ref (wa w 0)), (1, .int (i32 x1)), (2, .int (i32 x2)), (3, .int (i32 x3))] [] 6 := by
  have G := G0.1
  unfold f_m_groupOf_6 at hF
  refine vj_iload_n G (p9 := 3) d_m_groupOf_6 rfl rfl ?_
  refine vj_aload_n G (p9 := 0) d_m_groupOf_7 rfl rfl ?_
  refine gfR_m_13 G d_m_groupOf_8 ?_
  refine vj_mr (fun hM1 => ?_)
  refine vj_icmp_ge G (tgt := 85) d_m_groupOf_11 (by decide) hx3 (mr_o hM1 lkR_0 flR_0_1) (fun c2 => ?_) (fun c2 => ?_)
  · rw [if_pos c2] at hF
    refine vj_iload_n G (p9 := 2) d_m_groupOf_85 rfl rfl ?_
    cases hF
    exact vj_iret G0 hx2 d_m_groupOf_86
  · rw [if_neg c2] at hF
    refine vj_iload_n G (p9 := 2) d_m_groupOf_14 rfl rfl ?_
    refine vj_aload_n G (p9 := 0) d_m_groupOf_15 rfl rfl ?_
    refine gfR_m_25 G d_m_groupOf_16 ?_
    refine vj_iload_n G (p9 := 3) d_m_groupOf_19 rfl rfl ?_
    obtain ⟨c3, hF⟩ := ck_some hF
    refine vj_iald G (x := x3) lkR_1 (by decide) c3 d_m_groupOf_20 ?_
    refine vj_mr (fun hM4 => ?_)
    refine vj_iconst G (v := 1) d_m_groupOf_21 rfl ?_
    refine vj_icmp_ne G (tgt := 35) d_m_groupOf_22 (by decide) (mr_a hM4 lkR_1) ic_1 (fun c5 => ?_) (fun c5 => ?_)
    · rw [if_pos c5] at hF
      refine vj_sub [0, 1, 3] rfl ?_
      exact wk_m_groupOf_35 G0 n k6 hk6 x1 x3 x2 hx1 hx3 hx2 _ hF
    · rw [if_neg c5] at hF
      refine vj_aload_n G (p9 := 0) d_m_groupOf_25 rfl rfl ?_
      refine gfR_m_151 G d_m_groupOf_26 ?_
      refine vj_iload_n G (p9 := 3) d_m_groupOf_29 rfl rfl ?_
      obtain ⟨c6, hF⟩ := ck_some hF
      refine vj_iald G (x := x3) lkR_29 (by decide) c6 d_m_groupOf_30 ?_
      refine vj_mr (fun hM7 => ?_)
      refine vj_iload_n G (p9 := 1) d_m_groupOf_31 rfl rfl ?_
      refine vj_icmp_eq G (tgt := 70) d_m_groupOf_32 (by decide) (mr_a hM7 lkR_29) hx1 (fun c8 => ?_) (fun c8 => ?_)
      · rw [if_pos c8] at hF
        refine vj_sub [0, 1, 3] rfl ?_
        exact wk_m_groupOf_70 G0 n k6 hk6 x1 x3 x2 hx1 hx3 hx2 _ hF
      · rw [if_neg c8] at hF
        refine vj_sub [0, 1, 3] rfl ?_
        exact wk_m_groupOf_35 G0 n k6 hk6 x1 x3 x2 hx1 hx3 hx2 _ hF
set_option maxHeartbeats 4000000 in
set_option maxRecDepth 100000 in
theorem wl_m_groupOf_6 {w : Wd} {X : Cx} {r : Int} {M9 : Mm} (G0 : Gx LR w X "WhoRulesModel" b_m_groupOf 4 0 0 (some .int)) (n : Nat) : ∀ (f : Nat) (x1 x2 x3 : Int) (hx1 : inR x1) (hx2 : inR x2) (hx3 : inR x3) (M : Mm), lp_m_groupOf_6 n f x1 x2 x3 M = some (r, M9) → VJ LR w X 4 1 r M9 M [(0, .ref (wa w 0)), (1, .int (i32 x1)), (2, .int (i32 x2)), (3, .int (i32 x3))] [] 6 := by
  intro f
  induction f with
  | zero => intro x1 x2 x3 hx1 hx2 hx3 M hF; cases hF
  | succ f ih => intro x1 x2 x3 hx1 hx2 hx3 M hF; exact wk_m_groupOf_6 G0 n (lp_m_groupOf_6 n f) ih x1 x2 x3 hx1 hx2 hx3 M hF
set_option maxHeartbeats 4000000 in
set_option maxRecDepth 100000 in
theorem ct_m_groupOf {w : Wd} (hij : ij LR w) (n : Nat) (x1 : Int) (hx1 : inR x1) {M : Mm} {r : Int} {M9 : Mm} (hF : f_m_groupOf n x1 M = some (r, M9)) : Ct LR w y_m_groupOf b_m_groupOf 4 (some .int) 0 0 1 [.ref (wa w 0), .int (i32 x1)] M r M9 := by
  refine Ct.of hij KstR (by decide +kernel) (Nat.le_of_ble_eq_true rfl) (fun X G0 => ?_)
  have G := G0.1
  show VJ LR w X 4 1 r M9 M [(0, .ref (wa w 0)), (1, .int (i32 x1))] [] 0
  unfold f_m_groupOf at hF
  refine vj_iconst G (v := 1) d_m_groupOf_0 rfl ?_
  refine vj_iload_n G (p9 := 1) d_m_groupOf_1 rfl rfl ?_
  refine vj_ishl G d_m_groupOf_2 ?_
  refine vj_istore_n G (lv2 := [(2, .int (i32 (ish 1 x1))), (0, .ref (wa w 0)), (1, .int (i32 x1))]) d_m_groupOf_3 rfl (by decide) rfl ?_
  refine vj_iconst G (v := 0) d_m_groupOf_4 rfl ?_
  refine vj_istore_n G (lv2 := [(3, .int (i32 0)), (2, .int (i32 (ish 1 x1))), (0, .ref (wa w 0)), (1, .int (i32 x1))]) d_m_groupOf_5 rfl (by decide) rfl ?_
  refine vj_sub [2, 3, 1, 0] rfl ?_
  exact wl_m_groupOf_6 G0 n  n x1 (ish 1 x1) 0 hx1 (ir_sh _ _) ic_0 _ hF
set_option maxHeartbeats 4000000 in
set_option maxRecDepth 100000 in
theorem wk_m_nobodyRules_7 {w : Wd} {X : Cx} {r : Int} {M9 : Mm} (G0 : Gx LR w X "WhoRulesModel" b_m_nobodyRules 2 0 0 none) (n : Nat) (k7 : Int → Mm → Rr) (hk7 : ∀ (x1 : Int) (hx1 : inR x1) (M : Mm), k7 x1 M = some (r, M9) → VJ LR w X 2 0 r M9 M [(0, .ref (wa w 0)), (1, .int (i32 x1))] [] 7) (x1 : Int) (hx1 : inR x1) (M : Mm) (hF : f_m_nobodyRules_7 n k7 x1 M = some (r, M9)) : VJ LR w X 2 0 r M9 M [(0, .ref (wa w 0)), (1, .int (i32 x1))] [] 7 := by
  have G := G0.1
  unfold f_m_nobodyRules_7 at hF
  refine vj_iload_n G (p9 := 1) d_m_nobodyRules_7 rfl rfl ?_
  refine vj_bipush G (v := 16) d_m_nobodyRules_8 rfl ?_
  refine vj_icmp_ge G (tgt := 26) d_m_nobodyRules_10 (by decide) hx1 ic_16 (fun c1 => ?_) (fun c1 => ?_)
  · rw [if_pos c1] at hF
    cases hF
    exact vj_vret G0 d_m_nobodyRules_26
  · rw [if_neg c1] at hF
    refine vj_aload_n G (p9 := 0) d_m_nobodyRules_13 rfl rfl ?_
    refine gfR_m_151 G d_m_nobodyRules_14 ?_
    refine vj_iload_n G (p9 := 1) d_m_nobodyRules_17 rfl rfl ?_
    refine vj_iconst G (v := (-1)) d_m_nobodyRules_18 rfl ?_
    obtain ⟨c2, hF⟩ := ck_some hF
    refine vj_iast G (x := x1) lkR_29 (by decide) (by decide) (by decide) c2 ic_m1 d_m_nobodyRules_19 ?_
    refine vj_iinc G (p9 := 1) (n := 1) (lv2 := [(1, .int (i32 (w32 (x1 + 1)))), (0, .ref (wa w 0))]) d_m_nobodyRules_20 rfl (by decide) rfl ?_
    refine vj_goto G (tgt := 7) d_m_nobodyRules_23 (by decide) ?_
    refine vj_sub [1, 0] rfl ?_
    exact hk7 (w32 (x1 + 1)) (ir_w _) _ hF
set_option maxHeartbeats 4000000 in
set_option maxRecDepth 100000 in
theorem wl_m_nobodyRules_7 {w : Wd} {X : Cx} {r : Int} {M9 : Mm} (G0 : Gx LR w X "WhoRulesModel" b_m_nobodyRules 2 0 0 none) (n : Nat) : ∀ (f : Nat) (x1 : Int) (hx1 : inR x1) (M : Mm), lp_m_nobodyRules_7 n f x1 M = some (r, M9) → VJ LR w X 2 0 r M9 M [(0, .ref (wa w 0)), (1, .int (i32 x1))] [] 7 := by
  intro f
  induction f with
  | zero => intro x1 hx1 M hF; cases hF
  | succ f ih => intro x1 hx1 M hF; exact wk_m_nobodyRules_7 G0 n (lp_m_nobodyRules_7 n f) ih x1 hx1 M hF
set_option maxHeartbeats 4000000 in
set_option maxRecDepth 100000 in
theorem ct_m_nobodyRules {w : Wd} (hij : ij LR w) (n : Nat) {M : Mm} {r : Int} {M9 : Mm} (hF : f_m_nobodyRules n  M = some (r, M9)) : Ct LR w y_m_nobodyRules b_m_nobodyRules 2 none 0 0 0 [.ref (wa w 0)] M r M9 := by
  refine Ct.of hij KstR (by decide +kernel) (Nat.le_of_ble_eq_true rfl) (fun X G0 => ?_)
  have G := G0.1
  show VJ LR w X 2 0 r M9 M [(0, .ref (wa w 0))] [] 0
  unfold f_m_nobodyRules at hF
  refine vj_aload_n G (p9 := 0) d_m_nobodyRules_0 rfl rfl ?_
  refine vj_iconst G (v := 0) d_m_nobodyRules_1 rfl ?_
  refine pfR_m_157 G ic_0 d_m_nobodyRules_2 ?_
  refine vj_iconst G (v := 0) d_m_nobodyRules_5 rfl ?_
  refine vj_istore_n G (lv2 := [(1, .int (i32 0)), (0, .ref (wa w 0))]) d_m_nobodyRules_6 rfl (by decide) rfl ?_
  refine vj_sub [1, 0] rfl ?_
  exact wl_m_nobodyRules_7 G0 n  n 0 ic_0 _ hF
set_option maxHeartbeats 4000000 in
set_option maxRecDepth 100000 in
theorem wk_m_findLeast_131 {w : Wd} {X : Cx} {r : Int} {M9 : Mm} (G0 : Gx LR w X "WhoRulesModel" b_m_findLeast 4 3 65 none) (n : Nat) (k6 : Int → Mm → Rr) (hk6 : ∀ (x1 : Int) (hx1 : inB x1) (M : Mm), k6 x1 M = some (r, M9) → VJ LR w X 4 0 r M9 M [(0, .ref (wa w 0)), (1, .int (i32 x1))] [] 6) (k14 : Int → Int → Mm → Rr) (hk14 : ∀ (x1 x2 : Int) (hx1 : inB x1) (hx2 : inR x2) (M : Mm), k14 x1 x2 M = some (r, M9) → VJ LR w X 4 0 r M9 M [(0, .ref (wa w 0)), (1, .int (i32 x1)), (2, .int (i32 x2))] [] 14) (x1 x2 : Int) (hx1 : inB x1) (hx2 : inR x2) (M : Mm) (hF : f_m_findLeast_131 n k6 k14 x1 x2 M = some (r, M9)) : VJ LR w X 4 0 r M9 M [(0, .ref (wa w 0)), (1, .int (i32 x1)), (2, .int (i32 x2))] [] 131 := by
  have G := G0.1
  unfold f_m_findLeast_131 at hF
  refine vj_iinc G (p9 := 2) (n := 1) (lv2 := [(2, .int (i32 (w32 (x2 + 1)))), (0, .ref (wa w 0)), (1, .int (i32 x1))]) d_m_findLeast_131 rfl (by decide) rfl ?_
  refine vj_goto G (tgt := 14) d_m_findLeast_134 (by decide) ?_
  refine vj_sub [1, 2, 0] rfl ?_
  exact hk14 x1 (w32 (x2 + 1)) hx1 (ir_w _) _ hF
set_option maxHeartbeats 4000000 in
set_option maxRecDepth 100000 in
theorem wk_m_findLeast_97 {w : Wd} {X : Cx} {r : Int} {M9 : Mm} (G0 : Gx LR w X "WhoRulesModel" b_m_findLeast 4 3 65 none) (n : Nat) (k6 : Int → Mm → Rr) (hk6 : ∀ (x1 : Int) (hx1 : inB x1) (M : Mm), k6 x1 M = some (r, M9) → VJ LR w X 4 0 r M9 M [(0, .ref (wa w 0)), (1, .int (i32 x1))] [] 6) (k14 : Int → Int → Mm → Rr) (hk14 : ∀ (x1 x2 : Int) (hx1 : inB x1) (hx2 : inR x2) (M : Mm), k14 x1 x2 M = some (r, M9) → VJ LR w X 4 0 r M9 M [(0, .ref (wa w 0)), (1, .int (i32 x1)), (2, .int (i32 x2))] [] 14) (x1 x2 : Int) (hx1 : inB x1) (hx2 : inR x2) (M : Mm) (hF : f_m_findLeast_97 n k6 k14 x1 x2 M = some (r, M9)) : VJ LR w X 4 0 r M9 M [(0, .ref (wa w 0)), (1, .int (i32 x1)), (2, .int (i32 x2))] [] 97 := by
  have G := G0.1
  unfold f_m_findLeast_97 at hF
  refine vj_aload_n G (p9 := 0) d_m_findLeast_97 rfl rfl ?_
  refine gfR_m_151 G d_m_findLeast_98 ?_
  refine vj_iload_n G (p9 := 2) d_m_findLeast_101 rfl rfl ?_
  obtain ⟨c1, hF⟩ := ck_some hF
  refine vj_iald G (x := x2) lkR_29 (by decide) c1 d_m_findLeast_102 ?_
  refine vj_mr (fun hM2 => ?_)
  refine vj_if_ge G (tgt := 109) d_m_findLeast_103 (by decide) (mr_a hM2 lkR_29) (fun c3 => ?_) (fun c3 => ?_)
  · rw [if_pos c3] at hF
    refine vj_aload_n G (p9 := 0) d_m_findLeast_109 rfl rfl ?_
    refine gfR_m_154 G d_m_findLeast_110 ?_
    refine vj_aload_n G (p9 := 0) d_m_findLeast_113 rfl rfl ?_
    refine gfR_m_157 G d_m_findLeast_114 ?_
    refine vj_mr (fun hM4 => ?_)
    refine vj_iload_n G (p9 := 2) d_m_findLeast_117 rfl rfl ?_
    obtain ⟨c5, hF⟩ := ck_some hF
    refine vj_iast G (x := (M 0 48)) lkR_30 (by decide) (by decide) (by decide) c5 hx2 d_m_findLeast_118 ?_
    refine vj_aload_n G (p9 := 0) d_m_findLeast_119 rfl rfl ?_
    refine vj_dup G d_m_findLeast_120 rfl ?_
    refine gfR_m_157 G d_m_findLeast_121 ?_
    refine vj_mr (fun hM6 => ?_)
    refine vj_iconst G (v := 1) d_m_findLeast_124 rfl ?_
    refine vj_iadd G d_m_findLeast_125 ?_
    refine pfR_m_157 G (ir_w _) d_m_findLeast_126 ?_
    refine vj_iconst G (v := 1) d_m_findLeast_129 rfl ?_
    refine vj_istore_n G (lv2 := [(1, .int (i32 1)), (0, .ref (wa w 0)), (2, .int (i32 x2))]) d_m_findLeast_130 rfl (by decide) rfl ?_
    refine vj_sub [1, 0, 2] rfl ?_
    exact wk_m_findLeast_131 G0 n k6 hk6 k14 hk14 1 x2 (Or.inr rfl) hx2 _ hF
  · rw [if_neg c3] at hF
    refine vj_goto G (tgt := 131) d_m_findLeast_106 (by decide) ?_
    exact wk_m_findLeast_131 G0 n k6 hk6 k14 hk14 x1 x2 hx1 hx2 _ hF
set_option maxHeartbeats 4000000 in
set_option maxRecDepth 100000 in
theorem wk_m_findLeast_91 {w : Wd} {X : Cx} {r : Int} {M9 : Mm} (G0 : Gx LR w X "WhoRulesModel" b_m_findLeast 4 3 65 none) (n : Nat) (k6 : Int → Mm → Rr) (hk6 : ∀ (x1 : Int) (hx1 : inB x1) (M : Mm), k6 x1 M = some (r, M9) → VJ LR w X 4 0 r M9 M [(0, .ref (wa w 0)), (1, .int (i32 x1))] [] 6) (k14 : Int → Int → Mm → Rr) (hk14 : ∀ (x1 x2 : Int) (hx1 : inB x1) (hx2 : inR x2) (M : Mm), k14 x1 x2 M = some (r, M9) → VJ LR w X 4 0 r M9 M [(0, .ref (wa w 0)), (1, .int (i32 x1)), (2, .int (i32 x2))] [] 14) (k46 : Int → Int → Int → Mm → Rr) (hk46 : ∀ (x1 x2 x3 : Int) (hx1 : inB x1) (hx2 : inR x2) (hx3 : inR x3) (M : Mm), k46 x1 x2 x3 M = some (r, M9) → VJ LR w X 4 0 r M9 M [(0, .ref (wa w 0)), (1, .int (i32 x1)), (2, .int (i32 x2)), (3, .int (i32 x3))] [] 46) (x1 x2 x3 : Int) (hx1 : inB x1) (hx2 : inR x2) (hx3 : inR x3) (M : Mm) (hF : f_m_findLeast_91 n k6 k14 k46 x1 x2 x3 M = some (r, M9)) : VJ LR w X 4 0 r M9 M [(0, .ref (wa w 0)), (1, .int (i32 x1)), (2, .int (i32 x2)), (3, .int (i32 x3))] [] 91 := by
  have G := G0.1
  unfold f_m_findLeast_91 at hF
  refine vj_iinc G (p9 := 3) (n := 1) (lv2 := [(3, .int (i32 (w32 (x3 + 1)))), (0, .ref (wa w 0)), (1, .int (i32 x1)), (2, .int (i32 x2))]) d_m_findLeast_91 rfl (by decide) rfl ?_
  refine vj_goto G (tgt := 46) d_m_findLeast_94 (by decide) ?_
  refine vj_sub [1, 2, 3, 0] rfl ?_
  exact hk46 x1 x2 (w32 (x3 + 1)) hx1 hx2 (ir_w _) _ hF
set_option maxHeartbeats 4000000 in
set_option maxRecDepth 100000 in
theorem wk_m_findLeast_46 {w : Wd} {X : Cx} {r : Int} {M9 : Mm} (G0 : Gx LR w X "WhoRulesModel" b_m_findLeast 4 3 65 none) (n : Nat) (k6 : Int → Mm → Rr) (hk6 : ∀ (x1 : Int) (hx1 : inB x1) (M : Mm), k6 x1 M = some (r, M9) → VJ LR w X 4 0 r M9 M [(0, .ref (wa w 0)), (1, .int (i32 x1))] [] 6) (k14 : Int → Int → Mm → Rr) (hk14 : ∀ (x1 x2 : Int) (hx1 : inB x1) (hx2 : inR x2) (M : Mm), k14 x1 x2 M = some (r, M9) → VJ LR w X 4 0 r M9 M [(0, .ref (wa w 0)), (1, .int (i32 x1)), (2, .int (i32 x2))] [] 14) (k46 : Int → Int → Int → Mm → Rr) (hk46 : ∀ (x1 x2 x3 : Int) (hx1 : inB x1) (hx2 : inR x2) (hx3 : inR x3) (M : Mm), k46 x1 x2 x3 M = some (r, M9) → VJ LR w X 4 0 r M9 M [(0, .ref (wa w 0)), (1, .int (i32 x1)), (2, .int (i32 x2)), (3, .int (i32 x3))] [] 46) (x1 x2 x3 : Int) (hx1 : inB x1) (hx2 : inR x2) (hx3 : inR x3) (M : Mm) (hF : f_m_findLeast_46 n k6 k14 k46 x1 x2 x3 M = some (r, M9)) : VJ LR w X 4 0 r M9 M [(0, .ref (wa w 0)), (1, .int (i32 x1)), (2, .int (i32 x2)), (3, .int (i32 x3))] [] 46 := by
  have G := G0.1
  unfold f_m_findLeast_46 at hF
  refine vj_iload_n G (p9 := 3) d_m_findLeast_46 rfl rfl ?_
  refine vj_aload_n G (p9 := 0) d_m_findLeast_47 rfl rfl ?_
  refine gfR_m_13 G d_m_findLeast_48 ?_
  refine vj_mr (fun hM1 => ?_)
  refine vj_icmp_ge G (tgt := 97) d_m_findLeast_51 (by decide) hx3 (mr_o hM1 lkR_0 flR_0_1) (fun c2 => ?_) (fun c2 => ?_)
  · rw [if_pos c2] at hF
    refine vj_sub [0, 1, 2] rfl ?_
    exact wk_m_findLeast_97 G0 n k6 hk6 k14 hk14 x1 x2 hx1 hx2 _ hF
  · rw [if_neg c2] at hF
    refine vj_aload_n G (p9 := 0) d_m_findLeast_54 rfl rfl ?_
    refine gfR_m_151 G d_m_findLeast_55 ?_
    refine vj_iload_n G (p9 := 2) d_m_findLeast_58 rfl rfl ?_
    obtain ⟨c3, hF⟩ := ck_some hF
    refine vj_iald G (x := x2) lkR_29 (by decide) c3 d_m_findLeast_59 ?_
    refine vj_mr (fun hM4 => ?_)
    refine vj_if_ge G (tgt := 97) d_m_findLeast_60 (by decide) (mr_a hM4 lkR_29) (fun c5 => ?_) (fun c5 => ?_)
    · rw [if_pos c5] at hF
      refine vj_sub [0, 1, 2] rfl ?_
      exact wk_m_findLeast_97 G0 n k6 hk6 k14 hk14 x1 x2 hx1 hx2 _ hF
    · rw [if_neg c5] at hF
      refine vj_aload_n G (p9 := 0) d_m_findLeast_63 rfl rfl ?_
      refine vj_iload_n G (p9 := 3) d_m_findLeast_64 rfl rfl ?_
      obtain ⟨r6, M6, e6, hF⟩ := bnd_some hF
      refine vj_callV3 G (ct_m_isRuler (gx_ij G) n x3 hx3 e6) lkR_0 clR_0 rfl q_1708 cq_m_isRuler rfl (by decide) (by decide) (Nat.le_of_ble_eq_true rfl) d_m_findLeast_65 rfl (fun hr6 => ?_)
      refine vj_if_eq G (tgt := 91) d_m_findLeast_68 (by decide) (ir_b hr6) (fun c7 => ?_) (fun c7 => ?_)
      · rw [if_pos c7] at hF
        exact wk_m_findLeast_91 G0 n k6 hk6 k14 hk14 k46 hk46 x1 x2 x3 hx1 hx2 hx3 _ hF
      · rw [if_neg c7] at hF
        refine vj_aload_n G (p9 := 0) d_m_findLeast_71 rfl rfl ?_
        refine vj_iload_n G (p9 := 2) d_m_findLeast_72 rfl rfl ?_
        refine vj_aload_n G (p9 := 0) d_m_findLeast_73 rfl rfl ?_
        refine vj_iload_n G (p9 := 3) d_m_findLeast_74 rfl rfl ?_
        obtain ⟨r8, M8, e8, hF⟩ := bnd_some hF
        refine vj_callV1 G (ct_m_groupOf (gx_ij G) n x3 hx3 e8) lkR_0 clR_0 rfl q_1716 cq_m_groupOf rfl (by decide) (by decide) (Nat.le_of_ble_eq_true rfl) d_m_findLeast_75 rfl (fun hr8 => ?_)
        obtain ⟨r9, M9, e9, hF⟩ := bnd_some hF
        refine vj_callV3 G (ct_m_carries (gx_ij G) n x2 r8 hx2 hr8 e9) lkR_0 clR_0 rfl q_1688 cq_m_carries rfl (by decide) (by decide) (Nat.le_of_ble_eq_true rfl) d_m_findLeast_78 rfl (fun hr9 => ?_)
        refine vj_if_eq G (tgt := 91) d_m_findLeast_81 (by decide) (ir_b hr9) (fun c10 => ?_) (fun c10 => ?_)
        · rw [if_pos c10] at hF
          exact wk_m_findLeast_91 G0 n k6 hk6 k14 hk14 k46 hk46 x1 x2 x3 hx1 hx2 hx3 _ hF
        · rw [if_neg c10] at hF
          refine vj_aload_n G (p9 := 0) d_m_findLeast_84 rfl rfl ?_
          refine gfR_m_151 G d_m_findLeast_85 ?_
          refine vj_iload_n G (p9 := 2) d_m_findLeast_88 rfl rfl ?_
          refine vj_iload_n G (p9 := 3) d_m_findLeast_89 rfl rfl ?_
          obtain ⟨c11, hF⟩ := ck_some hF
          refine vj_iast G (x := x2) lkR_29 (by decide) (by decide) (by decide) c11 hx3 d_m_findLeast_90 ?_
          exact wk_m_findLeast_91 G0 n k6 hk6 k14 hk14 k46 hk46 x1 x2 x3 hx1 hx2 hx3 _ hF
set_option maxHeartbeats 4000000 in
set_option maxRecDepth 100000 in
theorem wl_m_findLeast_46 {w : Wd} {X : Cx} {r : Int} {M9 : Mm} (G0 : Gx LR w X "WhoRulesModel" b_m_findLeast 4 3 65 none) (n : Nat) (k6 : Int → Mm → Rr) (hk6 : ∀ (x1 : Int) (hx1 : inB x1) (M : Mm), k6 x1 M = some (r, M9) → VJ LR w X 4 0 r M9 M [(0, .ref (wa w 0)), (1, .int (i32 x1))] [] 6) (k14 : Int → Int → Mm → Rr) (hk14 : ∀ (x1 x2 : Int) (hx1 : inB x1) (hx2 : inR x2) (M : Mm), k14 x1 x2 M = some (r, M9) → VJ LR w X 4 0 r M9 M [(0, .ref (wa w 0)), (1, .int (i32 x1)), (2, .int (i32 x2))] [] 14) : ∀ (f : Nat) (x1 x2 x3 : Int) (hx1 : inB x1) (hx2 : inR x2) (hx3 : inR x3) (M : Mm), lp_m_findLeast_46 n k6 k14 f x1 x2 x3 M = some (r, M9) → VJ LR w X 4 0 r M9 M [(0, .ref (wa w 0)), (1, .int (i32 x1)), (2, .int (i32 x2)), (3, .int (i32 x3))] [] 46 := by
  intro f
  induction f with
  | zero => intro x1 x2 x3 hx1 hx2 hx3 M hF; cases hF
  | succ f ih => intro x1 x2 x3 hx1 hx2 hx3 M hF; exact wk_m_findLeast_46 G0 n k6 hk6 k14 hk14 (lp_m_findLeast_46 n k6 k14 f) ih x1 x2 x3 hx1 hx2 hx3 M hF
set_option maxHeartbeats 4000000 in
set_option maxRecDepth 100000 in
theorem wk_m_findLeast_14 {w : Wd} {X : Cx} {r : Int} {M9 : Mm} (G0 : Gx LR w X "WhoRulesModel" b_m_findLeast 4 3 65 none) (n : Nat) (k6 : Int → Mm → Rr) (hk6 : ∀ (x1 : Int) (hx1 : inB x1) (M : Mm), k6 x1 M = some (r, M9) → VJ LR w X 4 0 r M9 M [(0, .ref (wa w 0)), (1, .int (i32 x1))] [] 6) (k14 : Int → Int → Mm → Rr) (hk14 : ∀ (x1 x2 : Int) (hx1 : inB x1) (hx2 : inR x2) (M : Mm), k14 x1 x2 M = some (r, M9) → VJ LR w X 4 0 r M9 M [(0, .ref (wa w 0)), (1, .int (i32 x1)), (2, .int (i32 x2))] [] 14) (x1 x2 : Int) (hx1 : inB x1) (hx2 : inR x2) (M : Mm) (hF : f_m_findLeast_14 n k6 k14 x1 x2 M = some (r, M9)) : VJ LR w X 4 0 r M9 M [(0, .ref (wa w 0)), (1, .int (i32 x1)), (2, .int (i32 x2))] [] 14 := by
  have G := G0.1
  unfold f_m_findLeast_14 at hF
  refine vj_iload_n G (p9 := 2) d_m_findLeast_14 rfl rfl ?_
  refine vj_aload_n G (p9 := 0) d_m_findLeast_15 rfl rfl ?_
  refine gfR_m_13 G d_m_findLeast_16 ?_
  refine vj_mr (fun hM1 => ?_)
  refine vj_icmp_ge G (tgt := 137) d_m_findLeast_19 (by decide) hx2 (mr_o hM1 lkR_0 flR_0_1) (fun c2 => ?_) (fun c2 => ?_)
  · rw [if_pos c2] at hF
    refine vj_goto G (tgt := 6) d_m_findLeast_137 (by decide) ?_
    refine vj_sub [0, 1] rfl ?_
    exact hk6 x1 hx1 _ hF
  · rw [if_neg c2] at hF
    refine vj_aload_n G (p9 := 0) d_m_findLeast_22 rfl rfl ?_
    refine gfR_m_25 G d_m_findLeast_23 ?_
    refine vj_iload_n G (p9 := 2) d_m_findLeast_26 rfl rfl ?_
    obtain ⟨c3, hF⟩ := ck_some hF
    refine vj_iald G (x := x2) lkR_1 (by decide) c3 d_m_findLeast_27 ?_
    refine vj_mr (fun hM4 => ?_)
    refine vj_iconst G (v := 1) d_m_findLeast_28 rfl ?_
    refine vj_icmp_ne G (tgt := 131) d_m_findLeast_29 (by decide) (mr_a hM4 lkR_1) ic_1 (fun c5 => ?_) (fun c5 => ?_)
    · rw [if_pos c5] at hF
      exact wk_m_findLeast_131 G0 n k6 hk6 k14 hk14 x1 x2 hx1 hx2 _ hF
    · rw [if_neg c5] at hF
      refine vj_aload_n G (p9 := 0) d_m_findLeast_32 rfl rfl ?_
      refine gfR_m_151 G d_m_findLeast_33 ?_
      refine vj_iload_n G (p9 := 2) d_m_findLeast_36 rfl rfl ?_
      obtain ⟨c6, hF⟩ := ck_some hF
      refine vj_iald G (x := x2) lkR_29 (by decide) c6 d_m_findLeast_37 ?_
      refine vj_mr (fun hM7 => ?_)
      refine vj_if_lt G (tgt := 44) d_m_findLeast_38 (by decide) (mr_a hM7 lkR_29) (fun c8 => ?_) (fun c8 => ?_)
      · rw [if_pos c8] at hF
        refine vj_iconst G (v := 0) d_m_findLeast_44 rfl ?_
        refine vj_istore_n G (lv2 := [(3, .int (i32 0)), (0, .ref (wa w 0)), (1, .int (i32 x1)), (2, .int (i32 x2))]) d_m_findLeast_45 rfl (by decide) rfl ?_
        refine vj_sub [1, 2, 3, 0] rfl ?_
        exact wl_m_findLeast_46 G0 n k6 hk6 k14 hk14 n x1 x2 0 hx1 hx2 ic_0 _ hF
      · rw [if_neg c8] at hF
        refine vj_goto G (tgt := 131) d_m_findLeast_41 (by decide) ?_
        exact wk_m_findLeast_131 G0 n k6 hk6 k14 hk14 x1 x2 hx1 hx2 _ hF
set_option maxHeartbeats 4000000 in
set_option maxRecDepth 100000 in
theorem wl_m_findLeast_14 {w : Wd} {X : Cx} {r : Int} {M9 : Mm} (G0 : Gx LR w X "WhoRulesModel" b_m_findLeast 4 3 65 none) (n : Nat) (k6 : Int → Mm → Rr) (hk6 : ∀ (x1 : Int) (hx1 : inB x1) (M : Mm), k6 x1 M = some (r, M9) → VJ LR w X 4 0 r M9 M [(0, .ref (wa w 0)), (1, .int (i32 x1))] [] 6) : ∀ (f : Nat) (x1 x2 : Int) (hx1 : inB x1) (hx2 : inR x2) (M : Mm), lp_m_findLeast_14 n k6 f x1 x2 M = some (r, M9) → VJ LR w X 4 0 r M9 M [(0, .ref (wa w 0)), (1, .int (i32 x1)), (2, .int (i32 x2))] [] 14 := by
  intro f
  induction f with
  | zero => intro x1 x2 hx1 hx2 M hF; cases hF
  | succ f ih => intro x1 x2 hx1 hx2 M hF; exact wk_m_findLeast_14 G0 n k6 hk6 (lp_m_findLeast_14 n k6 f) ih x1 x2 hx1 hx2 M hF
set_option maxHeartbeats 4000000 in
set_option maxRecDepth 100000 in
theorem wk_m_findLeast_6 {w : Wd} {X : Cx} {r : Int} {M9 : Mm} (G0 : Gx LR w X "WhoRulesModel" b_m_findLeast 4 3 65 none) (n : Nat) (k6 : Int → Mm → Rr) (hk6 : ∀ (x1 : Int) (hx1 : inB x1) (M : Mm), k6 x1 M = some (r, M9) → VJ LR w X 4 0 r M9 M [(0, .ref (wa w 0)), (1, .int (i32 x1))] [] 6) (x1 : Int) (hx1 : inB x1) (M : Mm) (hF : f_m_findLeast_6 n k6 x1 M = some (r, M9)) : VJ LR w X 4 0 r M9 M [(0, .ref (wa w 0)), (1, .int (i32 x1))] [] 6 := by
  have G := G0.1
  unfold f_m_findLeast_6 at hF
  refine vj_iload_n G (p9 := 1) d_m_findLeast_6 rfl rfl ?_
  refine vj_if_eq G (tgt := 140) d_m_findLeast_7 (by decide) (ir_b hx1) (fun c1 => ?_) (fun c1 => ?_)
  · rw [if_pos c1] at hF
    cases hF
    exact vj_vret G0 d_m_findLeast_140
  · rw [if_neg c1] at hF
    refine vj_iconst G (v := 0) d_m_findLeast_10 rfl ?_
    refine vj_istore_n G (lv2 := [(1, .int (i32 0)), (0, .ref (wa w 0))]) d_m_findLeast_11 rfl (by decide) rfl ?_
    refine vj_iconst G (v := 0) d_m_findLeast_12 rfl ?_
    refine vj_istore_n G (lv2 := [(2, .int (i32 0)), (1, .int (i32 0)), (0, .ref (wa w 0))]) d_m_findLeast_13 rfl (by decide) rfl ?_
    refine vj_sub [2, 1, 0] rfl ?_
    exact wl_m_findLeast_14 G0 n k6 hk6 n 0 0 (Or.inl rfl) ic_0 _ hF
set_option maxHeartbeats 4000000 in
set_option maxRecDepth 100000 in
theorem wl_m_findLeast_6 {w : Wd} {X : Cx} {r : Int} {M9 : Mm} (G0 : Gx LR w X "WhoRulesModel" b_m_findLeast 4 3 65 none) (n : Nat) : ∀ (f : Nat) (x1 : Int) (hx1 : inB x1) (M : Mm), lp_m_findLeast_6 n f x1 M = some (r, M9) → VJ LR w X 4 0 r M9 M [(0, .ref (wa w 0)), (1, .int (i32 x1))] [] 6 := by
  intro f
  induction f with
  | zero => intro x1 hx1 M hF; cases hF
  | succ f ih => intro x1 hx1 M hF; exact wk_m_findLeast_6 G0 n (lp_m_findLeast_6 n f) ih x1 hx1 M hF
set_option maxHeartbeats 4000000 in
set_option maxRecDepth 100000 in
theorem ct_m_findLeast {w : Wd} (hij : ij LR w) (n : Nat) {M : Mm} {r : Int} {M9 : Mm} (hF : f_m_findLeast n  M = some (r, M9)) : Ct LR w y_m_findLeast b_m_findLeast 4 none 3 65 0 [.ref (wa w 0)] M r M9 := by
  refine Ct.of hij KstR (by decide +kernel) (Nat.le_of_ble_eq_true rfl) (fun X G0 => ?_)
  have G := G0.1
  show VJ LR w X 4 0 r M9 M [(0, .ref (wa w 0))] [] 0
  unfold f_m_findLeast at hF
  refine vj_aload_n G (p9 := 0) d_m_findLeast_0 rfl rfl ?_
  obtain ⟨r1, M1, e1, hF⟩ := bnd_some hF
  refine vj_callV0 G (ct_m_nobodyRules (gx_ij G) n   e1) lkR_0 clR_0 rfl q_1704 cq_m_nobodyRules rfl (by decide) (by decide) (Nat.le_of_ble_eq_true rfl) d_m_findLeast_1 rfl (fun hr1 => ?_)
  refine vj_iconst G (v := 1) d_m_findLeast_4 rfl ?_
  refine vj_istore_n G (lv2 := [(1, .int (i32 1)), (0, .ref (wa w 0))]) d_m_findLeast_5 rfl (by decide) rfl ?_
  refine vj_sub [1, 0] rfl ?_
  exact wl_m_findLeast_6 G0 n  n 1 (Or.inr rfl) _ hF
set_option maxHeartbeats 4000000 in
set_option maxRecDepth 100000 in
theorem ct_m_least {w : Wd} (hij : ij LR w) (n : Nat) (x1 : Int) (hx1 : inR x1) {M : Mm} {r : Int} {M9 : Mm} (hF : f_m_least n x1 M = some (r, M9)) : Ct LR w y_m_least b_m_least 2 none 10 228 0 [.ref (wa w 0), .int (i32 x1)] M r M9 := by
  refine Ct.of hij KstR (by decide +kernel) (Nat.le_of_ble_eq_true rfl) (fun X G0 => ?_)
  have G := G0.1
  show VJ LR w X 2 0 r M9 M [(0, .ref (wa w 0)), (1, .int (i32 x1))] [] 0
  unfold f_m_least at hF
  refine vj_aload_n G (p9 := 0) d_m_least_0 rfl rfl ?_
  refine vj_iload_n G (p9 := 1) d_m_least_1 rfl rfl ?_
  obtain ⟨r1, M1, e1, hF⟩ := bnd_some hF
  refine vj_callV0 G (ct_m_look (gx_ij G) n x1 hx1 e1) lkR_0 clR_0 rfl q_1672 cq_m_look rfl (by decide) (by decide) (Nat.le_of_ble_eq_true rfl) d_m_least_2 rfl (fun hr1 => ?_)
  refine vj_aload_n G (p9 := 0) d_m_least_5 rfl rfl ?_
  obtain ⟨r2, M2, e2, hF⟩ := bnd_some hF
  refine vj_callV0 G (ct_m_findLeast (gx_ij G) n   e2) lkR_0 clR_0 rfl q_1700 cq_m_findLeast rfl (by decide) (by decide) (Nat.le_of_ble_eq_true rfl) d_m_least_6 rfl (fun hr2 => ?_)
  cases hF
  exact vj_vret G0 d_m_least_9
set_option maxHeartbeats 4000000 in
set_option maxRecDepth 100000 in
theorem ct_m_ruler {w : Wd} (hij : ij LR w) (n : Nat) (x1 x2 : Int) (hx1 : inR x1) (hx2 : inR x2) {M : Mm} {r : Int} {M9 : Mm} (hF : f_m_ruler n x1 x2 M = some (r, M9)) : Ct LR w y_m_ruler b_m_ruler 3 (some .int) 11 249 1 [.ref (wa w 0), .int (i32 x1), .int (i32 x2)] M r M9 := by
  refine Ct.of hij KstR (by decide +kernel) (Nat.le_of_ble_eq_true rfl) (fun X G0 => ?_)
  have G := G0.1
  show VJ LR w X 3 1 r M9 M [(0, .ref (wa w 0)), (1, .int (i32 x1)), (2, .int (i32 x2))] [] 0
  unfold f_m_ruler at hF
  refine vj_aload_n G (p9 := 0) d_m_ruler_0 rfl rfl ?_
  refine vj_iload_n G (p9 := 1) d_m_ruler_1 rfl rfl ?_
  obtain ⟨r1, M1, e1, hF⟩ := bnd_some hF
  refine vj_callV3 G (ct_m_isFirm (gx_ij G) n x1 hx1 e1) lkR_0 clR_0 rfl q_1555 cq_m_isFirm rfl (by decide) (by decide) (Nat.le_of_ble_eq_true rfl) d_m_ruler_2 rfl (fun hr1 => ?_)
  refine vj_if_eq G (tgt := 16) d_m_ruler_5 (by decide) (ir_b hr1) (fun c2 => ?_) (fun c2 => ?_)
  · rw [if_pos c2] at hF
    refine vj_iconst G (v := (-1)) d_m_ruler_16 rfl ?_
    cases hF
    exact vj_iret G0 ic_m1 d_m_ruler_17
  · rw [if_neg c2] at hF
    refine vj_aload_n G (p9 := 0) d_m_ruler_8 rfl rfl ?_
    refine vj_iload_n G (p9 := 2) d_m_ruler_9 rfl rfl ?_
    obtain ⟨r3, M3, e3, hF⟩ := bnd_some hF
    refine vj_callV3 G (ct_m_isDay (gx_ij G) n x2 hx2 e3) lkR_0 clR_0 rfl q_1587 cq_m_isDay rfl (by decide) (by decide) (Nat.le_of_ble_eq_true rfl) d_m_ruler_10 rfl (fun hr3 => ?_)
    refine vj_if_ne G (tgt := 18) d_m_ruler_13 (by decide) (ir_b hr3) (fun c4 => ?_) (fun c4 => ?_)
    · rw [if_pos c4] at hF
      refine vj_aload_n G (p9 := 0) d_m_ruler_18 rfl rfl ?_
      refine vj_iload_n G (p9 := 2) d_m_ruler_19 rfl rfl ?_
      obtain ⟨r5, M5, e5, hF⟩ := bnd_some hF
      refine vj_callV0 G (ct_m_least (gx_ij G) n x2 hx2 e5) lkR_0 clR_0 rfl q_1696 cq_m_least rfl (by decide) (by decide) (Nat.le_of_ble_eq_true rfl) d_m_ruler_20 rfl (fun hr5 => ?_)
      refine vj_aload_n G (p9 := 0) d_m_ruler_23 rfl rfl ?_
      refine gfR_m_151 G d_m_ruler_24 ?_
      refine vj_iload_n G (p9 := 1) d_m_ruler_27 rfl rfl ?_
      obtain ⟨c6, hF⟩ := ck_some hF
      refine vj_iald G (x := x1) lkR_29 (by decide) c6 d_m_ruler_28 ?_
      refine vj_mr (fun hM7 => ?_)
      refine vj_if_ge G (tgt := 37) d_m_ruler_29 (by decide) (mr_a hM7 lkR_29) (fun c8 => ?_) (fun c8 => ?_)
      · rw [if_pos c8] at hF
        refine vj_aload_n G (p9 := 0) d_m_ruler_37 rfl rfl ?_
        refine gfR_m_151 G d_m_ruler_38 ?_
        refine vj_iload_n G (p9 := 1) d_m_ruler_41 rfl rfl ?_
        obtain ⟨c9, hF⟩ := ck_some hF
        refine vj_iald G (x := x1) lkR_29 (by decide) c9 d_m_ruler_42 ?_
        refine vj_mr (fun hM10 => ?_)
        cases hF
        exact vj_iret G0 (mr_a hM10 lkR_29) d_m_ruler_43
      · rw [if_neg c8] at hF
        refine vj_bipush G (v := (-5)) d_m_ruler_32 rfl ?_
        refine vj_goto G (tgt := 43) d_m_ruler_34 (by decide) ?_
        cases hF
        exact vj_iret G0 ic_m5 d_m_ruler_43
    · rw [if_neg c4] at hF
      refine vj_iconst G (v := (-1)) d_m_ruler_16 rfl ?_
      cases hF
      exact vj_iret G0 ic_m1 d_m_ruler_17
set_option maxHeartbeats 4000000 in
set_option maxRecDepth 100000 in
theorem ct_m_step {w : Wd} (hij : ij LR w) (n : Nat) (x1 x2 : Int) (hx1 : inR x1) (hx2 : inR x2) {M : Mm} {r : Int} {M9 : Mm} (hF : f_m_step n x1 x2 M = some (r, M9)) : Ct LR w y_m_step b_m_step 3 (some .int) 11 249 1 [.ref (wa w 0), .int (i32 x1), .int (i32 x2)] M r M9 := by
  refine Ct.of hij KstR (by decide +kernel) (Nat.le_of_ble_eq_true rfl) (fun X G0 => ?_)
  have G := G0.1
  show VJ LR w X 3 1 r M9 M [(0, .ref (wa w 0)), (1, .int (i32 x1)), (2, .int (i32 x2))] [] 0
  unfold f_m_step at hF
  refine vj_aload_n G (p9 := 0) d_m_step_0 rfl rfl ?_
  refine vj_iload_n G (p9 := 1) d_m_step_1 rfl rfl ?_
  obtain ⟨r1, M1, e1, hF⟩ := bnd_some hF
  refine vj_callV3 G (ct_m_isDay (gx_ij G) n x1 hx1 e1) lkR_0 clR_0 rfl q_1587 cq_m_isDay rfl (by decide) (by decide) (Nat.le_of_ble_eq_true rfl) d_m_step_2 rfl (fun hr1 => ?_)
  refine vj_if_ne G (tgt := 10) d_m_step_5 (by decide) (ir_b hr1) (fun c2 => ?_) (fun c2 => ?_)
  · rw [if_pos c2] at hF
    refine vj_aload_n G (p9 := 0) d_m_step_10 rfl rfl ?_
    refine vj_iload_n G (p9 := 1) d_m_step_11 rfl rfl ?_
    obtain ⟨r3, M3, e3, hF⟩ := bnd_some hF
    refine vj_callV0 G (ct_m_least (gx_ij G) n x1 hx1 e3) lkR_0 clR_0 rfl q_1696 cq_m_least rfl (by decide) (by decide) (Nat.le_of_ble_eq_true rfl) d_m_step_12 rfl (fun hr3 => ?_)
    refine vj_iload_n G (p9 := 2) d_m_step_15 rfl rfl ?_
    refine vj_iconst G (v := (-1)) d_m_step_16 rfl ?_
    refine vj_icmp_ne G (tgt := 27) d_m_step_17 (by decide) hx2 ic_m1 (fun c4 => ?_) (fun c4 => ?_)
    · rw [if_pos c4] at hF
      refine vj_aload_n G (p9 := 0) d_m_step_27 rfl rfl ?_
      refine vj_iload_n G (p9 := 2) d_m_step_28 rfl rfl ?_
      refine vj_iconst G (v := 0) d_m_step_29 rfl ?_
      refine vj_aload_n G (p9 := 0) d_m_step_30 rfl rfl ?_
      refine gfR_m_157 G d_m_step_31 ?_
      refine vj_mr (fun hM5 => ?_)
      refine vj_iconst G (v := 1) d_m_step_34 rfl ?_
      refine vj_isub G d_m_step_35 ?_
      obtain ⟨r6, M6, e6, hF⟩ := bnd_some hF
      refine vj_callV3 G (ct_m_in (gx_ij G) n x2 0 (w32 ((M3 0 48) - 1)) hx2 ic_0 (ir_w _) e6) lkR_0 clR_0 rfl q_1543 cq_m_in rfl (by decide) (by decide) (Nat.le_of_ble_eq_true rfl) d_m_step_36 rfl (fun hr6 => ?_)
      refine vj_if_eq G (tgt := 51) d_m_step_39 (by decide) (ir_b hr6) (fun c7 => ?_) (fun c7 => ?_)
      · rw [if_pos c7] at hF
        refine vj_iconst G (v := (-1)) d_m_step_51 rfl ?_
        cases hF
        exact vj_iret G0 ic_m1 d_m_step_52
      · rw [if_neg c7] at hF
        refine vj_aload_n G (p9 := 0) d_m_step_42 rfl rfl ?_
        refine gfR_m_154 G d_m_step_43 ?_
        refine vj_iload_n G (p9 := 2) d_m_step_46 rfl rfl ?_
        obtain ⟨c8, hF⟩ := ck_some hF
        refine vj_iald G (x := x2) lkR_30 (by decide) c8 d_m_step_47 ?_
        refine vj_mr (fun hM9 => ?_)
        refine vj_goto G (tgt := 52) d_m_step_48 (by decide) ?_
        cases hF
        exact vj_iret G0 (mr_a hM9 lkR_30) d_m_step_52
    · rw [if_neg c4] at hF
      refine vj_aload_n G (p9 := 0) d_m_step_20 rfl rfl ?_
      refine gfR_m_157 G d_m_step_21 ?_
      refine vj_mr (fun hM10 => ?_)
      refine vj_goto G (tgt := 52) d_m_step_24 (by decide) ?_
      cases hF
      exact vj_iret G0 (mr_o hM10 lkR_0 flR_0_48) d_m_step_52
  · rw [if_neg c2] at hF
    refine vj_iconst G (v := (-1)) d_m_step_8 rfl ?_
    cases hF
    exact vj_iret G0 ic_m1 d_m_step_9
set_option maxHeartbeats 4000000 in
set_option maxRecDepth 100000 in
theorem wk_m_listRulers_87 {w : Wd} {X : Cx} {r : Int} {M9 : Mm} (G0 : Gx LR w X "WhoRulesModel" b_m_listRulers 3 3 65 none) (n : Nat) (k56 : Int → Int → Mm → Rr) (hk56 : ∀ (x1 x2 : Int) (hx1 : inR x1) (hx2 : inR x2) (M : Mm), k56 x1 x2 M = some (r, M9) → VJ LR w X 3 0 r M9 M [(0, .ref (wa w 0)), (1, .int (i32 x1)), (2, .int (i32 x2))] [] 56) (x1 x2 : Int) (hx1 : inR x1) (hx2 : inR x2) (M : Mm) (hF : f_m_listRulers_87 n k56 x1 x2 M = some (r, M9)) : VJ LR w X 3 0 r M9 M [(0, .ref (wa w 0)), (1, .int (i32 x1)), (2, .int (i32 x2))] [] 87 := by
  have G := G0.1
  unfold f_m_listRulers_87 at hF
  refine vj_iinc G (p9 := 2) (n := 1) (lv2 := [(2, .int (i32 (w32 (x2 + 1)))), (0, .ref (wa w 0)), (1, .int (i32 x1))]) d_m_listRulers_87 rfl (by decide) rfl ?_
  refine vj_goto G (tgt := 56) d_m_listRulers_90 (by decide) ?_
  refine vj_sub [1, 2, 0] rfl ?_
  exact hk56 x1 (w32 (x2 + 1)) hx1 (ir_w _) _ hF
set_option maxHeartbeats 4000000 in
set_option maxRecDepth 100000 in
theorem wk_m_listRulers_56 {w : Wd} {X : Cx} {r : Int} {M9 : Mm} (G0 : Gx LR w X "WhoRulesModel" b_m_listRulers 3 3 65 none) (n : Nat) (k56 : Int → Int → Mm → Rr) (hk56 : ∀ (x1 x2 : Int) (hx1 : inR x1) (hx2 : inR x2) (M : Mm), k56 x1 x2 M = some (r, M9) → VJ LR w X 3 0 r M9 M [(0, .ref (wa w 0)), (1, .int (i32 x1)), (2, .int (i32 x2))] [] 56) (x1 x2 : Int) (hx1 : inR x1) (hx2 : inR x2) (M : Mm) (hF : f_m_listRulers_56 n k56 x1 x2 M = some (r, M9)) : VJ LR w X 3 0 r M9 M [(0, .ref (wa w 0)), (1, .int (i32 x1)), (2, .int (i32 x2))] [] 56 := by
  have G := G0.1
  unfold f_m_listRulers_56 at hF
  refine vj_iload_n G (p9 := 2) d_m_listRulers_56 rfl rfl ?_
  refine vj_aload_n G (p9 := 0) d_m_listRulers_57 rfl rfl ?_
  refine gfR_m_13 G d_m_listRulers_58 ?_
  refine vj_mr (fun hM1 => ?_)
  refine vj_icmp_ge G (tgt := 93) d_m_listRulers_61 (by decide) hx2 (mr_o hM1 lkR_0 flR_0_1) (fun c2 => ?_) (fun c2 => ?_)
  · rw [if_pos c2] at hF
    cases hF
    exact vj_vret G0 d_m_listRulers_93
  · rw [if_neg c2] at hF
    refine vj_aload_n G (p9 := 0) d_m_listRulers_64 rfl rfl ?_
    refine gfR_m_25 G d_m_listRulers_65 ?_
    refine vj_iload_n G (p9 := 2) d_m_listRulers_68 rfl rfl ?_
    obtain ⟨c3, hF⟩ := ck_some hF
    refine vj_iald G (x := x2) lkR_1 (by decide) c3 d_m_listRulers_69 ?_
    refine vj_mr (fun hM4 => ?_)
    refine vj_iconst G (v := 1) d_m_listRulers_70 rfl ?_
    refine vj_icmp_eq G (tgt := 77) d_m_listRulers_71 (by decide) (mr_a hM4 lkR_1) ic_1 (fun c5 => ?_) (fun c5 => ?_)
    · rw [if_pos c5] at hF
      refine vj_aload_n G (p9 := 0) d_m_listRulers_77 rfl rfl ?_
      refine gfR_m_163 G d_m_listRulers_78 ?_
      refine vj_iload_n G (p9 := 1) d_m_listRulers_81 rfl rfl ?_
      refine vj_iload_n G (p9 := 2) d_m_listRulers_82 rfl rfl ?_
      obtain ⟨c6, hF⟩ := ck_some hF
      refine vj_iast G (x := x1) lkR_32 (by decide) (by decide) (by decide) c6 hx2 d_m_listRulers_83 ?_
      refine vj_iinc G (p9 := 1) (n := 1) (lv2 := [(1, .int (i32 (w32 (x1 + 1)))), (0, .ref (wa w 0)), (2, .int (i32 x2))]) d_m_listRulers_84 rfl (by decide) rfl ?_
      refine vj_sub [1, 0, 2] rfl ?_
      exact wk_m_listRulers_87 G0 n k56 hk56 (w32 (x1 + 1)) x2 (ir_w _) hx2 _ hF
    · rw [if_neg c5] at hF
      refine vj_goto G (tgt := 87) d_m_listRulers_74 (by decide) ?_
      exact wk_m_listRulers_87 G0 n k56 hk56 x1 x2 hx1 hx2 _ hF
set_option maxHeartbeats 4000000 in
set_option maxRecDepth 100000 in
theorem wl_m_listRulers_56 {w : Wd} {X : Cx} {r : Int} {M9 : Mm} (G0 : Gx LR w X "WhoRulesModel" b_m_listRulers 3 3 65 none) (n : Nat) : ∀ (f : Nat) (x1 x2 : Int) (hx1 : inR x1) (hx2 : inR x2) (M : Mm), lp_m_listRulers_56 n f x1 x2 M = some (r, M9) → VJ LR w X 3 0 r M9 M [(0, .ref (wa w 0)), (1, .int (i32 x1)), (2, .int (i32 x2))] [] 56 := by
  intro f
  induction f with
  | zero => intro x1 x2 hx1 hx2 M hF; cases hF
  | succ f ih => intro x1 x2 hx1 hx2 M hF; exact wk_m_listRulers_56 G0 n (lp_m_listRulers_56 n f) ih x1 x2 hx1 hx2 M hF
set_option maxHeartbeats 4000000 in
set_option maxRecDepth 100000 in
theorem wk_m_listRulers_46 {w : Wd} {X : Cx} {r : Int} {M9 : Mm} (G0 : Gx LR w X "WhoRulesModel" b_m_listRulers 3 3 65 none) (n : Nat) (k7 : Int → Mm → Rr) (hk7 : ∀ (x1 : Int) (hx1 : inR x1) (M : Mm), k7 x1 M = some (r, M9) → VJ LR w X 3 0 r M9 M [(0, .ref (wa w 0)), (1, .int (i32 x1))] [] 7) (x1 : Int) (hx1 : inR x1) (M : Mm) (hF : f_m_listRulers_46 n k7 x1 M = some (r, M9)) : VJ LR w X 3 0 r M9 M [(0, .ref (wa w 0)), (1, .int (i32 x1))] [] 46 := by
  have G := G0.1
  unfold f_m_listRulers_46 at hF
  refine vj_iinc G (p9 := 1) (n := 1) (lv2 := [(1, .int (i32 (w32 (x1 + 1)))), (0, .ref (wa w 0))]) d_m_listRulers_46 rfl (by decide) rfl ?_
  refine vj_goto G (tgt := 7) d_m_listRulers_49 (by decide) ?_
  refine vj_sub [1, 0] rfl ?_
  exact hk7 (w32 (x1 + 1)) (ir_w _) _ hF
set_option maxHeartbeats 4000000 in
set_option maxRecDepth 100000 in
theorem wk_m_listRulers_7 {w : Wd} {X : Cx} {r : Int} {M9 : Mm} (G0 : Gx LR w X "WhoRulesModel" b_m_listRulers 3 3 65 none) (n : Nat) (k7 : Int → Mm → Rr) (hk7 : ∀ (x1 : Int) (hx1 : inR x1) (M : Mm), k7 x1 M = some (r, M9) → VJ LR w X 3 0 r M9 M [(0, .ref (wa w 0)), (1, .int (i32 x1))] [] 7) (x1 : Int) (hx1 : inR x1) (M : Mm) (hF : f_m_listRulers_7 n k7 x1 M = some (r, M9)) : VJ LR w X 3 0 r M9 M [(0, .ref (wa w 0)), (1, .int (i32 x1))] [] 7 := by
  have G := G0.1
  unfold f_m_listRulers_7 at hF
  refine vj_iload_n G (p9 := 1) d_m_listRulers_7 rfl rfl ?_
  refine vj_aload_n G (p9 := 0) d_m_listRulers_8 rfl rfl ?_
  refine gfR_m_13 G d_m_listRulers_9 ?_
  refine vj_mr (fun hM1 => ?_)
  refine vj_icmp_ge G (tgt := 52) d_m_listRulers_12 (by decide) hx1 (mr_o hM1 lkR_0 flR_0_1) (fun c2 => ?_) (fun c2 => ?_)
  · rw [if_pos c2] at hF
    refine vj_iconst G (v := 0) d_m_listRulers_52 rfl ?_
    refine vj_istore_n G (lv2 := [(1, .int (i32 0)), (0, .ref (wa w 0))]) d_m_listRulers_53 rfl (by decide) rfl ?_
    refine vj_iconst G (v := 0) d_m_listRulers_54 rfl ?_
    refine vj_istore_n G (lv2 := [(2, .int (i32 0)), (1, .int (i32 0)), (0, .ref (wa w 0))]) d_m_listRulers_55 rfl (by decide) rfl ?_
    refine vj_sub [2, 1, 0] rfl ?_
    exact wl_m_listRulers_56 G0 n  n 0 0 ic_0 ic_0 _ hF
  · rw [if_neg c2] at hF
    refine vj_aload_n G (p9 := 0) d_m_listRulers_15 rfl rfl ?_
    refine vj_iload_n G (p9 := 1) d_m_listRulers_16 rfl rfl ?_
    obtain ⟨r3, M3, e3, hF⟩ := bnd_some hF
    refine vj_callV3 G (ct_m_isRuler (gx_ij G) n x1 hx1 e3) lkR_0 clR_0 rfl q_1708 cq_m_isRuler rfl (by decide) (by decide) (Nat.le_of_ble_eq_true rfl) d_m_listRulers_17 rfl (fun hr3 => ?_)
    refine vj_if_ne G (tgt := 26) d_m_listRulers_20 (by decide) (ir_b hr3) (fun c4 => ?_) (fun c4 => ?_)
    · rw [if_pos c4] at hF
      refine vj_aload_n G (p9 := 0) d_m_listRulers_26 rfl rfl ?_
      refine gfR_m_160 G d_m_listRulers_27 ?_
      refine vj_aload_n G (p9 := 0) d_m_listRulers_30 rfl rfl ?_
      refine gfR_m_166 G d_m_listRulers_31 ?_
      refine vj_mr (fun hM5 => ?_)
      refine vj_iload_n G (p9 := 1) d_m_listRulers_34 rfl rfl ?_
      obtain ⟨c6, hF⟩ := ck_some hF
      refine vj_iast G (x := (M3 0 51)) lkR_31 (by decide) (by decide) (by decide) c6 hx1 d_m_listRulers_35 ?_
      refine vj_aload_n G (p9 := 0) d_m_listRulers_36 rfl rfl ?_
      refine vj_dup G d_m_listRulers_37 rfl ?_
      refine gfR_m_166 G d_m_listRulers_38 ?_
      refine vj_mr (fun hM7 => ?_)
      refine vj_iconst G (v := 1) d_m_listRulers_41 rfl ?_
      refine vj_iadd G d_m_listRulers_42 ?_
      refine pfR_m_166 G (ir_w _) d_m_listRulers_43 ?_
      exact wk_m_listRulers_46 G0 n k7 hk7 x1 hx1 _ hF
    · rw [if_neg c4] at hF
      refine vj_goto G (tgt := 46) d_m_listRulers_23 (by decide) ?_
      exact wk_m_listRulers_46 G0 n k7 hk7 x1 hx1 _ hF
set_option maxHeartbeats 4000000 in
set_option maxRecDepth 100000 in
theorem wl_m_listRulers_7 {w : Wd} {X : Cx} {r : Int} {M9 : Mm} (G0 : Gx LR w X "WhoRulesModel" b_m_listRulers 3 3 65 none) (n : Nat) : ∀ (f : Nat) (x1 : Int) (hx1 : inR x1) (M : Mm), lp_m_listRulers_7 n f x1 M = some (r, M9) → VJ LR w X 3 0 r M9 M [(0, .ref (wa w 0)), (1, .int (i32 x1))] [] 7 := by
  intro f
  induction f with
  | zero => intro x1 hx1 M hF; cases hF
  | succ f ih => intro x1 hx1 M hF; exact wk_m_listRulers_7 G0 n (lp_m_listRulers_7 n f) ih x1 hx1 M hF
set_option maxHeartbeats 4000000 in
set_option maxRecDepth 100000 in
theorem ct_m_listRulers {w : Wd} (hij : ij LR w) (n : Nat) {M : Mm} {r : Int} {M9 : Mm} (hF : f_m_listRulers n  M = some (r, M9)) : Ct LR w y_m_listRulers b_m_listRulers 3 none 3 65 0 [.ref (wa w 0)] M r M9 := by
  refine Ct.of hij KstR (by decide +kernel) (Nat.le_of_ble_eq_true rfl) (fun X G0 => ?_)
  have G := G0.1
  show VJ LR w X 3 0 r M9 M [(0, .ref (wa w 0))] [] 0
  unfold f_m_listRulers at hF
  refine vj_aload_n G (p9 := 0) d_m_listRulers_0 rfl rfl ?_
  refine vj_iconst G (v := 0) d_m_listRulers_1 rfl ?_
  refine pfR_m_166 G ic_0 d_m_listRulers_2 ?_
  refine vj_iconst G (v := 0) d_m_listRulers_5 rfl ?_
  refine vj_istore_n G (lv2 := [(1, .int (i32 0)), (0, .ref (wa w 0))]) d_m_listRulers_6 rfl (by decide) rfl ?_
  refine vj_sub [1, 0] rfl ?_
  exact wl_m_listRulers_7 G0 n  n 0 ic_0 _ hF
set_option maxHeartbeats 4000000 in
set_option maxRecDepth 100000 in
theorem wk_m_fits_91 {w : Wd} {X : Cx} {r : Int} {M9 : Mm} (G0 : Gx LR w X "WhoRulesModel" b_m_fits 4 1 25 (some .boolean)) (n : Nat) (k2 : Int → Mm → Rr) (hk2 : ∀ (x1 : Int) (hx1 : inR x1) (M : Mm), k2 x1 M = some (r, M9) → VJ LR w X 4 3 r M9 M [(0, .ref (wa w 0)), (1, .int (i32 x1))] [] 2) (x1 : Int) (hx1 : inR x1) (M : Mm) (hF : f_m_fits_91 n k2 x1 M = some (r, M9)) : VJ LR w X 4 3 r M9 M [(0, .ref (wa w 0)), (1, .int (i32 x1))] [] 91 := by
  have G := G0.1
  unfold f_m_fits_91 at hF
  refine vj_iinc G (p9 := 1) (n := 1) (lv2 := [(1, .int (i32 (w32 (x1 + 1)))), (0, .ref (wa w 0))]) d_m_fits_91 rfl (by decide) rfl ?_
  refine vj_goto G (tgt := 2) d_m_fits_94 (by decide) ?_
  refine vj_sub [1, 0] rfl ?_
  exact hk2 (w32 (x1 + 1)) (ir_w _) _ hF
set_option maxHeartbeats 4000000 in
set_option maxRecDepth 100000 in
theorem wk_m_fits_48 {w : Wd} {X : Cx} {r : Int} {M9 : Mm} (G0 : Gx LR w X "WhoRulesModel" b_m_fits 4 1 25 (some .boolean)) (n : Nat) (k2 : Int → Mm → Rr) (hk2 : ∀ (x1 : Int) (hx1 : inR x1) (M : Mm), k2 x1 M = some (r, M9) → VJ LR w X 4 3 r M9 M [(0, .ref (wa w 0)), (1, .int (i32 x1))] [] 2) (k48 : Int → Int → Int → Mm → Rr) (hk48 : ∀ (x1 x2 x3 : Int) (hx1 : inR x1) (hx2 : inR x2) (hx3 : inR x3) (M : Mm), k48 x1 x2 x3 M = some (r, M9) → VJ LR w X 4 3 r M9 M [(0, .ref (wa w 0)), (1, .int (i32 x1)), (2, .int (i32 x2)), (3, .int (i32 x3))] [] 48) (x1 x2 x3 : Int) (hx1 : inR x1) (hx2 : inR x2) (hx3 : inR x3) (M : Mm) (hF : f_m_fits_48 n k2 k48 x1 x2 x3 M = some (r, M9)) : VJ LR w X 4 3 r M9 M [(0, .ref (wa w 0)), (1, .int (i32 x1)), (2, .int (i32 x2)), (3, .int (i32 x3))] [] 48 := by
  have G := G0.1
  unfold f_m_fits_48 at hF
  refine vj_iload_n G (p9 := 3) d_m_fits_48 rfl rfl ?_
  refine vj_aload_n G (p9 := 0) d_m_fits_49 rfl rfl ?_
  refine gfR_m_166 G d_m_fits_50 ?_
  refine vj_mr (fun hM1 => ?_)
  refine vj_icmp_ge G (tgt := 91) d_m_fits_53 (by decide) hx3 (mr_o hM1 lkR_0 flR_0_51) (fun c2 => ?_) (fun c2 => ?_)
  · rw [if_pos c2] at hF
    refine vj_sub [0, 1] rfl ?_
    exact wk_m_fits_91 G0 n k2 hk2 x1 hx1 _ hF
  · rw [if_neg c2] at hF
    refine vj_aload_n G (p9 := 0) d_m_fits_56 rfl rfl ?_
    refine gfR_m_151 G d_m_fits_57 ?_
    refine vj_iload_n G (p9 := 2) d_m_fits_60 rfl rfl ?_
    obtain ⟨c3, hF⟩ := ck_some hF
    refine vj_iald G (x := x2) lkR_29 (by decide) c3 d_m_fits_61 ?_
    refine vj_mr (fun hM4 => ?_)
    refine vj_if_ge G (tgt := 91) d_m_fits_62 (by decide) (mr_a hM4 lkR_29) (fun c5 => ?_) (fun c5 => ?_)
    · rw [if_pos c5] at hF
      refine vj_sub [0, 1] rfl ?_
      exact wk_m_fits_91 G0 n k2 hk2 x1 hx1 _ hF
    · rw [if_neg c5] at hF
      refine vj_aload_n G (p9 := 0) d_m_fits_65 rfl rfl ?_
      refine vj_iload_n G (p9 := 2) d_m_fits_66 rfl rfl ?_
      refine vj_aload_n G (p9 := 0) d_m_fits_67 rfl rfl ?_
      refine vj_aload_n G (p9 := 0) d_m_fits_68 rfl rfl ?_
      refine gfR_m_160 G d_m_fits_69 ?_
      refine vj_iload_n G (p9 := 3) d_m_fits_72 rfl rfl ?_
      obtain ⟨c6, hF⟩ := ck_some hF
      refine vj_iald G (x := x3) lkR_31 (by decide) c6 d_m_fits_73 ?_
      refine vj_mr (fun hM7 => ?_)
      obtain ⟨r8, M8, e8, hF⟩ := bnd_some hF
      refine vj_callV1 G (ct_m_groupOf (gx_ij G) n (M 31 x3.toNat) (mr_a hM7 lkR_31) e8) lkR_0 clR_0 rfl q_1716 cq_m_groupOf rfl (by decide) (by decide) (Nat.le_of_ble_eq_true rfl) d_m_fits_74 rfl (fun hr8 => ?_)
      obtain ⟨r9, M9, e9, hF⟩ := bnd_some hF
      refine vj_callV3 G (ct_m_carries (gx_ij G) n x2 r8 hx2 hr8 e9) lkR_0 clR_0 rfl q_1688 cq_m_carries rfl (by decide) (by decide) (Nat.le_of_ble_eq_true rfl) d_m_fits_77 rfl (fun hr9 => ?_)
      refine vj_if_eq G (tgt := 85) d_m_fits_80 (by decide) (ir_b hr9) (fun c10 => ?_) (fun c10 => ?_)
      · rw [if_pos c10] at hF
        refine vj_iinc G (p9 := 3) (n := 1) (lv2 := [(3, .int (i32 (w32 (x3 + 1)))), (0, .ref (wa w 0)), (1, .int (i32 x1)), (2, .int (i32 x2))]) d_m_fits_85 rfl (by decide) rfl ?_
        refine vj_goto G (tgt := 48) d_m_fits_88 (by decide) ?_
        refine vj_sub [1, 2, 3, 0] rfl ?_
        exact hk48 x1 x2 (w32 (x3 + 1)) hx1 hx2 (ir_w _) _ hF
      · rw [if_neg c10] at hF
        refine vj_iconst G (v := 0) d_m_fits_83 rfl ?_
        cases hF
        exact vj_zret G0 (Or.inl rfl) d_m_fits_84
set_option maxHeartbeats 4000000 in
set_option maxRecDepth 100000 in
theorem wl_m_fits_48 {w : Wd} {X : Cx} {r : Int} {M9 : Mm} (G0 : Gx LR w X "WhoRulesModel" b_m_fits 4 1 25 (some .boolean)) (n : Nat) (k2 : Int → Mm → Rr) (hk2 : ∀ (x1 : Int) (hx1 : inR x1) (M : Mm), k2 x1 M = some (r, M9) → VJ LR w X 4 3 r M9 M [(0, .ref (wa w 0)), (1, .int (i32 x1))] [] 2) : ∀ (f : Nat) (x1 x2 x3 : Int) (hx1 : inR x1) (hx2 : inR x2) (hx3 : inR x3) (M : Mm), lp_m_fits_48 n k2 f x1 x2 x3 M = some (r, M9) → VJ LR w X 4 3 r M9 M [(0, .ref (wa w 0)), (1, .int (i32 x1)), (2, .int (i32 x2)), (3, .int (i32 x3))] [] 48 := by
  intro f
  induction f with
  | zero => intro x1 x2 x3 hx1 hx2 hx3 M hF; cases hF
  | succ f ih => intro x1 x2 x3 hx1 hx2 hx3 M hF; exact wk_m_fits_48 G0 n k2 hk2 (lp_m_fits_48 n k2 f) ih x1 x2 x3 hx1 hx2 hx3 M hF
set_option maxHeartbeats 4000000 in
set_option maxRecDepth 100000 in
theorem wk_m_fits_46 {w : Wd} {X : Cx} {r : Int} {M9 : Mm} (G0 : Gx LR w X "WhoRulesModel" b_m_fits 4 1 25 (some .boolean)) (n : Nat) (k2 : Int → Mm → Rr) (hk2 : ∀ (x1 : Int) (hx1 : inR x1) (M : Mm), k2 x1 M = some (r, M9) → VJ LR w X 4 3 r M9 M [(0, .ref (wa w 0)), (1, .int (i32 x1))] [] 2) (x1 x2 : Int) (hx1 : inR x1) (hx2 : inR x2) (M : Mm) (hF : f_m_fits_46 n k2 x1 x2 M = some (r, M9)) : VJ LR w X 4 3 r M9 M [(0, .ref (wa w 0)), (1, .int (i32 x1)), (2, .int (i32 x2))] [] 46 := by
  have G := G0.1
  unfold f_m_fits_46 at hF
  refine vj_iconst G (v := 0) d_m_fits_46 rfl ?_
  refine vj_istore_n G (lv2 := [(3, .int (i32 0)), (0, .ref (wa w 0)), (1, .int (i32 x1)), (2, .int (i32 x2))]) d_m_fits_47 rfl (by decide) rfl ?_
  refine vj_sub [1, 2, 3, 0] rfl ?_
  exact wl_m_fits_48 G0 n k2 hk2 n x1 x2 0 hx1 hx2 ic_0 _ hF
set_option maxHeartbeats 4000000 in
set_option maxRecDepth 100000 in
theorem wk_m_fits_2 {w : Wd} {X : Cx} {r : Int} {M9 : Mm} (G0 : Gx LR w X "WhoRulesModel" b_m_fits 4 1 25 (some .boolean)) (n : Nat) (k2 : Int → Mm → Rr) (hk2 : ∀ (x1 : Int) (hx1 : inR x1) (M : Mm), k2 x1 M = some (r, M9) → VJ LR w X 4 3 r M9 M [(0, .ref (wa w 0)), (1, .int (i32 x1))] [] 2) (x1 : Int) (hx1 : inR x1) (M : Mm) (hF : f_m_fits_2 n k2 x1 M = some (r, M9)) : VJ LR w X 4 3 r M9 M [(0, .ref (wa w 0)), (1, .int (i32 x1))] [] 2 := by
  have G := G0.1
  unfold f_m_fits_2 at hF
  refine vj_iload_n G (p9 := 1) d_m_fits_2 rfl rfl ?_
  refine vj_aload_n G (p9 := 0) d_m_fits_3 rfl rfl ?_
  refine gfR_m_16 G d_m_fits_4 ?_
  refine vj_mr (fun hM1 => ?_)
  refine vj_icmp_ge G (tgt := 97) d_m_fits_7 (by decide) hx1 (mr_o hM1 lkR_0 flR_0_2) (fun c2 => ?_) (fun c2 => ?_)
  · rw [if_pos c2] at hF
    refine vj_iconst G (v := 1) d_m_fits_97 rfl ?_
    cases hF
    exact vj_zret G0 (Or.inr rfl) d_m_fits_98
  · rw [if_neg c2] at hF
    refine vj_aload_n G (p9 := 0) d_m_fits_10 rfl rfl ?_
    refine gfR_m_163 G d_m_fits_11 ?_
    refine vj_iload_n G (p9 := 1) d_m_fits_14 rfl rfl ?_
    obtain ⟨c3, hF⟩ := ck_some hF
    refine vj_iald G (x := x1) lkR_32 (by decide) c3 d_m_fits_15 ?_
    refine vj_mr (fun hM4 => ?_)
    refine vj_istore_n G (lv2 := [(2, .int (i32 (M 32 x1.toNat))), (0, .ref (wa w 0)), (1, .int (i32 x1))]) d_m_fits_16 rfl (by decide) rfl ?_
    refine vj_aload_n G (p9 := 1) d_m_fits_17 rfl rfl ?_
    refine gfR_m_151 G d_m_fits_18 ?_
    refine vj_iload_n G (p9 := 0) d_m_fits_21 rfl rfl ?_
    obtain ⟨c5, hF⟩ := ck_some hF
    refine vj_iald G (x := (M 32 x1.toNat)) lkR_29 (by decide) c5 d_m_fits_22 ?_
    refine vj_if_lt G (tgt := 46) d_m_fits_23 (by decide) (mr_a hM4 lkR_29) (fun c6 => ?_) (fun c6 => ?_)
    · rw [if_pos c6] at hF
      refine vj_sub [1, 2, 0] rfl ?_
      exact wk_m_fits_46 G0 n k2 hk2 x1 (M 32 x1.toNat) hx1 (mr_a hM4 lkR_32) _ hF
    · rw [if_neg c6] at hF
      refine vj_aload_n G (p9 := 1) d_m_fits_26 rfl rfl ?_
      refine vj_iload_n G (p9 := 0) d_m_fits_27 rfl rfl ?_
      refine vj_aload_n G (p9 := 1) d_m_fits_28 rfl rfl ?_
      refine vj_aload_n G (p9 := 1) d_m_fits_29 rfl rfl ?_
      refine gfR_m_151 G d_m_fits_30 ?_
      refine vj_iload_n G (p9 := 0) d_m_fits_33 rfl rfl ?_
      obtain ⟨c7, hF⟩ := ck_some hF
      refine vj_iald G (x := (M 32 x1.toNat)) lkR_29 (by decide) c7 d_m_fits_34 ?_
      refine vj_mr (fun hM8 => ?_)
      obtain ⟨r9, M9, e9, hF⟩ := bnd_some hF
      refine vj_callV1 G (ct_m_groupOf (gx_ij G) n (M 29 (M 32 x1.toNat).toNat) (mr_a hM8 lkR_29) e9) lkR_0 clR_0 rfl q_1716 cq_m_groupOf rfl (by decide) (by decide) (Nat.le_of_ble_eq_true rfl) d_m_fits_35 rfl (fun hr9 => ?_)
      obtain ⟨r10, M10, e10, hF⟩ := bnd_some hF
      refine vj_callV3 G (ct_m_carries (gx_ij G) n (M 32 x1.toNat) r9 (mr_a hM4 lkR_32) hr9 e10) lkR_0 clR_0 rfl q_1688 cq_m_carries rfl (by decide) (by decide) (Nat.le_of_ble_eq_true rfl) d_m_fits_38 rfl (fun hr10 => ?_)
      refine vj_if_ne G (tgt := 46) d_m_fits_41 (by decide) (ir_b hr10) (fun c11 => ?_) (fun c11 => ?_)
      · rw [if_pos c11] at hF
        refine vj_sub [1, 2, 0] rfl ?_
        exact wk_m_fits_46 G0 n k2 hk2 x1 (M 32 x1.toNat) hx1 (mr_a hM4 lkR_32) _ hF
      · rw [if_neg c11] at hF
        refine vj_iconst G (v := 0) d_m_fits_44 rfl ?_
        cases hF
        exact vj_zret G0 (Or.inl rfl) d_m_fits_45
set_option maxHeartbeats 4000000 in
set_option maxRecDepth 100000 in
theorem wl_m_fits_2 {w : Wd} {X : Cx} {r : Int} {M9 : Mm} (G0 : Gx LR w X "WhoRulesModel" b_m_fits 4 1 25 (some .boolean)) (n : Nat) : ∀ (f : Nat) (x1 : Int) (hx1 : inR x1) (M : Mm), lp_m_fits_2 n f x1 M = some (r, M9) → VJ LR w X 4 3 r M9 M [(0, .ref (wa w 0)), (1, .int (i32 x1))] [] 2 := by
  intro f
  induction f with
  | zero => intro x1 hx1 M hF; cases hF
  | succ f ih => intro x1 hx1 M hF; exact wk_m_fits_2 G0 n (lp_m_fits_2 n f) ih x1 hx1 M hF
set_option maxHeartbeats 4000000 in
set_option maxRecDepth 100000 in
theorem ct_m_fits {w : Wd} (hij : ij LR w) (n : Nat) {M : Mm} {r : Int} {M9 : Mm} (hF : f_m_fits n  M = some (r, M9)) : Ct LR w y_m_fits b_m_fits 4 (some .boolean) 1 25 3 [.ref (wa w 0)] M r M9 := by
  refine Ct.of hij KstR (by decide +kernel) (Nat.le_of_ble_eq_true rfl) (fun X G0 => ?_)
  have G := G0.1
  show VJ LR w X 4 3 r M9 M [(0, .ref (wa w 0))] [] 0
  unfold f_m_fits at hF
  refine vj_iconst G (v := 0) d_m_fits_0 rfl ?_
  refine vj_istore_n G (lv2 := [(1, .int (i32 0)), (0, .ref (wa w 0))]) d_m_fits_1 rfl (by decide) rfl ?_
  refine vj_sub [1, 0] rfl ?_
  exact wl_m_fits_2 G0 n  n 0 ic_0 _ hF
set_option maxHeartbeats 4000000 in
set_option maxRecDepth 100000 in
theorem wk_m_all_215 {w : Wd} {X : Cx} {r : Int} {M9 : Mm} (G0 : Gx LR w X "WhoRulesModel" b_m_all 10 10 228 (some .int)) (n : Nat) (k93 : Int → Int → Int → Int → Int → Mm → Rr) (hk93 : ∀ (x2 x3 x4 x5 x6 : Int) (hx2 : inR x2) (hx3 : inR x3) (hx4 : inR x4) (hx5 : inR x5) (hx6 : inR x6) (M : Mm), k93 x2 x3 x4 x5 x6 M = some (r, M9) → VJ LR w X 10 1 r M9 M [(0, .ref (wa w 0)), (2, .int (i32 x2)), (3, .int (i32 x3)), (4, .int (i32 x4)), (5, .int (i32 x5)), (6, .int (i32 x6))] [] 93) (x2 x3 x4 x5 x6 : Int) (hx2 : inR x2) (hx3 : inR x3) (hx4 : inR x4) (hx5 : inR x5) (hx6 : inR x6) (M : Mm) (hF : f_m_all_215 n k93 x2 x3 x4 x5 x6 M = some (r, M9)) : VJ LR w X 10 1 r M9 M [(0, .ref (wa w 0)), (2, .int (i32 x2)), (3, .int (i32 x3)), (4, .int (i32 x4)), (5, .int (i32 x5)), (6, .int (i32 x6))] [] 215 := by
  have G := G0.1
  unfold f_m_all_215 at hF
  refine vj_iinc G (p9 := 5) (n := 1) (lv2 := [(6, .int (i32 (w32 (x6 + 1)))), (0, .ref (wa w 0)), (2, .int (i32 x2)), (3, .int (i32 x3)), (4, .int (i32 x4)), (5, .int (i32 x5))]) d_m_all_215 rfl (by decide) rfl ?_
  refine vj_goto G (tgt := 93) d_m_all_218 (by decide) ?_
  refine vj_sub [1, 2, 3, 4, 5, 0] rfl ?_
  exact hk93 x2 x3 x4 x5 (w32 (x6 + 1)) hx2 hx3 hx4 hx5 (ir_w _) _ hF
set_option maxHeartbeats 4000000 in
set_option maxRecDepth 100000 in
theorem wk_m_all_157 {w : Wd} {X : Cx} {r : Int} {M9 : Mm} (G0 : Gx LR w X "WhoRulesModel" b_m_all 10 10 228 (some .int)) (n : Nat) (k93 : Int → Int → Int → Int → Int → Mm → Rr) (hk93 : ∀ (x2 x3 x4 x5 x6 : Int) (hx2 : inR x2) (hx3 : inR x3) (hx4 : inR x4) (hx5 : inR x5) (hx6 : inR x6) (M : Mm), k93 x2 x3 x4 x5 x6 M = some (r, M9) → VJ LR w X 10 1 r M9 M [(0, .ref (wa w 0)), (2, .int (i32 x2)), (3, .int (i32 x3)), (4, .int (i32 x4)), (5, .int (i32 x5)), (6, .int (i32 x6))] [] 93) (k112 : Int → Int → Int → Int → Int → Int → Int → Mm → Rr) (hk112 : ∀ (x2 x3 x4 x5 x6 x7 x8 : Int) (hx2 : inR x2) (hx3 : inR x3) (hx4 : inR x4) (hx5 : inR x5) (hx6 : inR x6) (hx7 : inR x7) (hx8 : inR x8) (M : Mm), k112 x2 x3 x4 x5 x6 x7 x8 M = some (r, M9) → VJ LR w X 10 1 r M9 M [(0, .ref (wa w 0)), (2, .int (i32 x2)), (3, .int (i32 x3)), (4, .int (i32 x4)), (5, .int (i32 x5)), (6, .int (i32 x6)), (7, .int (i32 x7)), (8, .int (i32 x8))] [] 112) (x2 x3 x4 x5 x6 x7 x8 s1 s2 : Int) (hx2 : inR x2) (hx3 : inR x3) (hx4 : inR x4) (hx5 : inR x5) (hx6 : inR x6) (hx7 : inR x7) (hx8 : inR x8) (hs1 : inR s1) (hs2 : inR s2) (M : Mm) (hF : f_m_all_157 n k93 k112 x2 x3 x4 x5 x6 x7 x8 s1 s2 M = some (r, M9)) : VJ LR w X 10 1 r M9 M [(0, .ref (wa w 0)), (2, .int (i32 x2)), (3, .int (i32 x3)), (4, .int (i32 x4)), (5, .int (i32 x5)), (6, .int (i32 x6)), (7, .int (i32 x7)), (8, .int (i32 x8))] [.int (i32 s2), .int (i32 s1), .ref (wa w 29)] 157 := by
  have G := G0.1
  unfold f_m_all_157 at hF
  obtain ⟨c1, hF⟩ := ck_some hF
  refine vj_iast G (x := s1) lkR_29 (by decide) (by decide) (by decide) c1 hs2 d_m_all_157 ?_
  refine vj_iload G (p9 := 6) d_m_all_158 rfl ?_
  refine vj_aload_n G (p9 := 0) d_m_all_160 rfl rfl ?_
  refine gfR_m_166 G d_m_all_161 ?_
  refine vj_mr (fun hM2 => ?_)
  refine vj_iconst G (v := 1) d_m_all_164 rfl ?_
  refine vj_iadd G d_m_all_165 ?_
  obtain ⟨c3, hF⟩ := ck_some hF
  refine vj_idiv G d_m_all_166 (ir_w _) c3 ?_
  refine vj_istore G (lv2 := [(7, .int (i32 (idv x7 (w32 (((mset M 29 s1.toNat s2) 0 51) + 1))))), (0, .ref (wa w 0)), (2, .int (i32 x2)), (3, .int (i32 x3)), (4, .int (i32 x4)), (5, .int (i32 x5)), (6, .int (i32 x6)), (8, .int (i32 x8))]) d_m_all_167 (by decide) rfl ?_
  refine vj_iinc G (p9 := 7) (n := (-1)) (lv2 := [(8, .int (i32 (w32 (x8 + (-1))))), (7, .int (i32 (idv x7 (w32 (((mset M 29 s1.toNat s2) 0 51) + 1))))), (0, .ref (wa w 0)), (2, .int (i32 x2)), (3, .int (i32 x3)), (4, .int (i32 x4)), (5, .int (i32 x5)), (6, .int (i32 x6))]) d_m_all_169 rfl (by decide) rfl ?_
  refine vj_goto G (tgt := 112) d_m_all_172 (by decide) ?_
  refine vj_sub [2, 3, 4, 5, 6, 7, 1, 0] rfl ?_
  exact hk112 x2 x3 x4 x5 x6 (idv x7 (w32 (((mset M 29 s1.toNat s2) 0 51) + 1))) (w32 (x8 + (-1))) hx2 hx3 hx4 hx5 hx6 (ir_dv _ _) (ir_w _) _ hF
set_option maxHeartbeats 4000000 in
set_option maxRecDepth 100000 in
theorem wk_m_all_112 {w : Wd} {X : Cx} {r : Int} {M9 : Mm} (G0 : Gx LR w X "WhoRulesModel" b_m_all 10 10 228 (some .int)) (n : Nat) (k93 : Int → Int → Int → Int → Int → Mm → Rr) (hk93 : ∀ (x2 x3 x4 x5 x6 : Int) (hx2 : inR x2) (hx3 : inR x3) (hx4 : inR x4) (hx5 : inR x5) (hx6 : inR x6) (M : Mm), k93 x2 x3 x4 x5 x6 M = some (r, M9) → VJ LR w X 10 1 r M9 M [(0, .ref (wa w 0)), (2, .int (i32 x2)), (3, .int (i32 x3)), (4, .int (i32 x4)), (5, .int (i32 x5)), (6, .int (i32 x6))] [] 93) (k112 : Int → Int → Int → Int → Int → Int → Int → Mm → Rr) (hk112 : ∀ (x2 x3 x4 x5 x6 x7 x8 : Int) (hx2 : inR x2) (hx3 : inR x3) (hx4 : inR x4) (hx5 : inR x5) (hx6 : inR x6) (hx7 : inR x7) (hx8 : inR x8) (M : Mm), k112 x2 x3 x4 x5 x6 x7 x8 M = some (r, M9) → VJ LR w X 10 1 r M9 M [(0, .ref (wa w 0)), (2, .int (i32 x2)), (3, .int (i32 x3)), (4, .int (i32 x4)), (5, .int (i32 x5)), (6, .int (i32 x6)), (7, .int (i32 x7)), (8, .int (i32 x8))] [] 112) (x2 x3 x4 x5 x6 x7 x8 : Int) (hx2 : inR x2) (hx3 : inR x3) (hx4 : inR x4) (hx5 : inR x5) (hx6 : inR x6) (hx7 : inR x7) (hx8 : inR x8) (M : Mm) (hF : f_m_all_112 n k93 k112 x2 x3 x4 x5 x6 x7 x8 M = some (r, M9)) : VJ LR w X 10 1 r M9 M [(0, .ref (wa w 0)), (2, .int (i32 x2)), (3, .int (i32 x3)), (4, .int (i32 x4)), (5, .int (i32 x5)), (6, .int (i32 x6)), (7, .int (i32 x7)), (8, .int (i32 x8))] [] 112 := by
  have G := G0.1
  unfold f_m_all_112 at hF
  refine vj_iload G (p9 := 7) d_m_all_112 rfl ?_
  refine vj_if_lt G (tgt := 175) d_m_all_114 (by decide) hx8 (fun c1 => ?_) (fun c1 => ?_)
  · rw [if_pos c1] at hF
    refine vj_aload_n G (p9 := 0) d_m_all_175 rfl rfl ?_
    obtain ⟨r2, M2, e2, hF⟩ := bnd_some hF
    refine vj_callV3 G (ct_m_fits (gx_ij G) n   e2) lkR_0 clR_0 rfl q_1732 cq_m_fits rfl (by decide) (by decide) (Nat.le_of_ble_eq_true rfl) d_m_all_176 rfl (fun hr2 => ?_)
    refine vj_if_ne G (tgt := 185) d_m_all_179 (by decide) (ir_b hr2) (fun c3 => ?_) (fun c3 => ?_)
    · rw [if_pos c3] at hF
      refine vj_iload G (p9 := 4) d_m_all_185 rfl ?_
      refine vj_iload_n G (p9 := 1) d_m_all_187 rfl rfl ?_
      refine vj_icmp_ne G (tgt := 212) d_m_all_188 (by decide) hx5 hx2 (fun c4 => ?_) (fun c4 => ?_)
      · rw [if_pos c4] at hF
        refine vj_iinc G (p9 := 4) (n := 1) (lv2 := [(5, .int (i32 (w32 (x5 + 1)))), (0, .ref (wa w 0)), (2, .int (i32 x2)), (3, .int (i32 x3)), (4, .int (i32 x4)), (6, .int (i32 x6)), (7, .int (i32 x7)), (8, .int (i32 x8))]) d_m_all_212 rfl (by decide) rfl ?_
        refine vj_sub [1, 2, 3, 4, 0, 5] rfl ?_
        exact wk_m_all_215 G0 n k93 hk93 x2 x3 x4 (w32 (x5 + 1)) x6 hx2 hx3 hx4 (ir_w _) hx6 _ hF
      · rw [if_neg c4] at hF
        refine vj_aload_n G (p9 := 0) d_m_all_191 rfl rfl ?_
        refine gfR_m_151 G d_m_all_192 ?_
        refine vj_iload_n G (p9 := 2) d_m_all_195 rfl rfl ?_
        obtain ⟨c5, hF⟩ := ck_some hF
        refine vj_iald G (x := x3) lkR_29 (by decide) c5 d_m_all_196 ?_
        refine vj_mr (fun hM6 => ?_)
        refine vj_if_ge G (tgt := 205) d_m_all_197 (by decide) (mr_a hM6 lkR_29) (fun c7 => ?_) (fun c7 => ?_)
        · rw [if_pos c7] at hF
          refine vj_aload_n G (p9 := 0) d_m_all_205 rfl rfl ?_
          refine gfR_m_151 G d_m_all_206 ?_
          refine vj_iload_n G (p9 := 2) d_m_all_209 rfl rfl ?_
          obtain ⟨c8, hF⟩ := ck_some hF
          refine vj_iald G (x := x3) lkR_29 (by decide) c8 d_m_all_210 ?_
          refine vj_mr (fun hM9 => ?_)
          cases hF
          exact vj_iret G0 (mr_a hM9 lkR_29) d_m_all_211
        · rw [if_neg c7] at hF
          refine vj_bipush G (v := (-5)) d_m_all_200 rfl ?_
          refine vj_goto G (tgt := 211) d_m_all_202 (by decide) ?_
          cases hF
          exact vj_iret G0 ic_m5 d_m_all_211
    · rw [if_neg c3] at hF
      refine vj_goto G (tgt := 215) d_m_all_182 (by decide) ?_
      refine vj_sub [0, 1, 2, 3, 4, 5] rfl ?_
      exact wk_m_all_215 G0 n k93 hk93 x2 x3 x4 x5 x6 hx2 hx3 hx4 hx5 hx6 _ hF
  · rw [if_neg c1] at hF
    refine vj_iload G (p9 := 6) d_m_all_117 rfl ?_
    refine vj_aload_n G (p9 := 0) d_m_all_119 rfl rfl ?_
    refine gfR_m_166 G d_m_all_120 ?_
    refine vj_mr (fun hM10 => ?_)
    refine vj_iconst G (v := 1) d_m_all_123 rfl ?_
    refine vj_iadd G d_m_all_124 ?_
    obtain ⟨c11, hF⟩ := ck_some hF
    refine vj_irem G d_m_all_125 (ir_w _) c11 ?_
    refine vj_istore G (lv2 := [(9, .int (i32 (irm x7 (w32 ((M 0 51) + 1))))), (0, .ref (wa w 0)), (2, .int (i32 x2)), (3, .int (i32 x3)), (4, .int (i32 x4)), (5, .int (i32 x5)), (6, .int (i32 x6)), (7, .int (i32 x7)), (8, .int (i32 x8))]) d_m_all_126 (by decide) rfl ?_
    refine vj_aload_n G (p9 := 1) d_m_all_128 rfl rfl ?_
    refine gfR_m_151 G d_m_all_129 ?_
    refine vj_aload_n G (p9 := 1) d_m_all_132 rfl rfl ?_
    refine gfR_m_163 G d_m_all_133 ?_
    refine vj_iload G (p9 := 8) d_m_all_136 rfl ?_
    obtain ⟨c12, hF⟩ := ck_some hF
    refine vj_iald G (x := x8) lkR_32 (by decide) c12 d_m_all_138 ?_
    refine vj_iload G (p9 := 0) d_m_all_139 rfl ?_
    refine vj_if_ne G (tgt := 148) d_m_all_141 (by decide) (ir_rm _ _) (fun c13 => ?_) (fun c13 => ?_)
    · rw [if_pos c13] at hF
      refine vj_aload_n G (p9 := 1) d_m_all_148 rfl rfl ?_
      refine gfR_m_160 G d_m_all_149 ?_
      refine vj_iload G (p9 := 0) d_m_all_152 rfl ?_
      refine vj_iconst G (v := 1) d_m_all_154 rfl ?_
      refine vj_isub G d_m_all_155 ?_
      obtain ⟨c14, hF⟩ := ck_some hF
      refine vj_iald G (x := w32 ((irm x7 (w32 ((M 0 51) + 1))) - 1)) lkR_31 (by decide) c14 d_m_all_156 ?_
      refine vj_mr (fun hM15 => ?_)
      refine vj_sub [1, 2, 3, 4, 5, 6, 7, 8] rfl ?_
      exact wk_m_all_157 G0 n k93 hk93 k112 hk112 x2 x3 x4 x5 x6 x7 x8 (M 32 x8.toNat) (M 31 (w32 ((irm x7 (w32 ((M 0 51) + 1))) - 1)).toNat) hx2 hx3 hx4 hx5 hx6 hx7 hx8 (mr_a hM10 lkR_32) (mr_a hM15 lkR_31) _ hF
    · rw [if_neg c13] at hF
      refine vj_iconst G (v := (-1)) d_m_all_144 rfl ?_
      refine vj_goto G (tgt := 157) d_m_all_145 (by decide) ?_
      refine vj_sub [1, 2, 3, 4, 5, 6, 7, 8] rfl ?_
      exact wk_m_all_157 G0 n k93 hk93 k112 hk112 x2 x3 x4 x5 x6 x7 x8 (M 32 x8.toNat) (-1) hx2 hx3 hx4 hx5 hx6 hx7 hx8 (mr_a hM10 lkR_32) ic_m1 _ hF
set_option maxHeartbeats 4000000 in
set_option maxRecDepth 100000 in
theorem wl_m_all_112 {w : Wd} {X : Cx} {r : Int} {M9 : Mm} (G0 : Gx LR w X "WhoRulesModel" b_m_all 10 10 228 (some .int)) (n : Nat) (k93 : Int → Int → Int → Int → Int → Mm → Rr) (hk93 : ∀ (x2 x3 x4 x5 x6 : Int) (hx2 : inR x2) (hx3 : inR x3) (hx4 : inR x4) (hx5 : inR x5) (hx6 : inR x6) (M : Mm), k93 x2 x3 x4 x5 x6 M = some (r, M9) → VJ LR w X 10 1 r M9 M [(0, .ref (wa w 0)), (2, .int (i32 x2)), (3, .int (i32 x3)), (4, .int (i32 x4)), (5, .int (i32 x5)), (6, .int (i32 x6))] [] 93) : ∀ (f : Nat) (x2 x3 x4 x5 x6 x7 x8 : Int) (hx2 : inR x2) (hx3 : inR x3) (hx4 : inR x4) (hx5 : inR x5) (hx6 : inR x6) (hx7 : inR x7) (hx8 : inR x8) (M : Mm), lp_m_all_112 n k93 f x2 x3 x4 x5 x6 x7 x8 M = some (r, M9) → VJ LR w X 10 1 r M9 M [(0, .ref (wa w 0)), (2, .int (i32 x2)), (3, .int (i32 x3)), (4, .int (i32 x4)), (5, .int (i32 x5)), (6, .int (i32 x6)), (7, .int (i32 x7)), (8, .int (i32 x8))] [] 112 := by
  intro f
  induction f with
  | zero => intro x2 x3 x4 x5 x6 x7 x8 hx2 hx3 hx4 hx5 hx6 hx7 hx8 M hF; cases hF
  | succ f ih => intro x2 x3 x4 x5 x6 x7 x8 hx2 hx3 hx4 hx5 hx6 hx7 hx8 M hF; exact wk_m_all_112 G0 n k93 hk93 (lp_m_all_112 n k93 f) ih x2 x3 x4 x5 x6 x7 x8 hx2 hx3 hx4 hx5 hx6 hx7 hx8 M hF
set_option maxHeartbeats 4000000 in
set_option maxRecDepth 100000 in
theorem wk_m_all_93 {w : Wd} {X : Cx} {r : Int} {M9 : Mm} (G0 : Gx LR w X "WhoRulesModel" b_m_all 10 10 228 (some .int)) (n : Nat) (k93 : Int → Int → Int → Int → Int → Mm → Rr) (hk93 : ∀ (x2 x3 x4 x5 x6 : Int) (hx2 : inR x2) (hx3 : inR x3) (hx4 : inR x4) (hx5 : inR x5) (hx6 : inR x6) (M : Mm), k93 x2 x3 x4 x5 x6 M = some (r, M9) → VJ LR w X 10 1 r M9 M [(0, .ref (wa w 0)), (2, .int (i32 x2)), (3, .int (i32 x3)), (4, .int (i32 x4)), (5, .int (i32 x5)), (6, .int (i32 x6))] [] 93) (x2 x3 x4 x5 x6 : Int) (hx2 : inR x2) (hx3 : inR x3) (hx4 : inR x4) (hx5 : inR x5) (hx6 : inR x6) (M : Mm) (hF : f_m_all_93 n k93 x2 x3 x4 x5 x6 M = some (r, M9)) : VJ LR w X 10 1 r M9 M [(0, .ref (wa w 0)), (2, .int (i32 x2)), (3, .int (i32 x3)), (4, .int (i32 x4)), (5, .int (i32 x5)), (6, .int (i32 x6))] [] 93 := by
  have G := G0.1
  unfold f_m_all_93 at hF
  refine vj_iload G (p9 := 5) d_m_all_93 rfl ?_
  refine vj_iload G (p9 := 3) d_m_all_95 rfl ?_
  refine vj_icmp_ge G (tgt := 221) d_m_all_97 (by decide) hx6 hx4 (fun c1 => ?_) (fun c1 => ?_)
  · rw [if_pos c1] at hF
    refine vj_iload_n G (p9 := 1) d_m_all_221 rfl rfl ?_
    refine vj_iconst G (v := (-1)) d_m_all_222 rfl ?_
    refine vj_icmp_ne G (tgt := 231) d_m_all_223 (by decide) hx2 ic_m1 (fun c2 => ?_) (fun c2 => ?_)
    · rw [if_pos c2] at hF
      refine vj_iconst G (v := (-1)) d_m_all_231 rfl ?_
      cases hF
      exact vj_iret G0 ic_m1 d_m_all_232
    · rw [if_neg c2] at hF
      refine vj_iload G (p9 := 4) d_m_all_226 rfl ?_
      refine vj_goto G (tgt := 232) d_m_all_228 (by decide) ?_
      cases hF
      exact vj_iret G0 hx5 d_m_all_232
  · rw [if_neg c1] at hF
    refine vj_iload G (p9 := 5) d_m_all_100 rfl ?_
    refine vj_istore G (lv2 := [(7, .int (i32 x6)), (0, .ref (wa w 0)), (2, .int (i32 x2)), (3, .int (i32 x3)), (4, .int (i32 x4)), (5, .int (i32 x5)), (6, .int (i32 x6))]) d_m_all_102 (by decide) rfl ?_
    refine vj_aload_n G (p9 := 1) d_m_all_104 rfl rfl ?_
    refine gfR_m_16 G d_m_all_105 ?_
    refine vj_mr (fun hM3 => ?_)
    refine vj_iconst G (v := 1) d_m_all_108 rfl ?_
    refine vj_isub G d_m_all_109 ?_
    refine vj_istore G (lv2 := [(8, .int (i32 (w32 ((M 0 2) - 1)))), (7, .int (i32 x6)), (0, .ref (wa w 0)), (2, .int (i32 x2)), (3, .int (i32 x3)), (4, .int (i32 x4)), (5, .int (i32 x5)), (6, .int (i32 x6))]) d_m_all_110 (by decide) rfl ?_
    refine vj_sub [2, 3, 4, 5, 6, 7, 1, 0] rfl ?_
    exact wl_m_all_112 G0 n k93 hk93 n x2 x3 x4 x5 x6 x6 (w32 ((M 0 2) - 1)) hx2 hx3 hx4 hx5 hx6 hx6 (ir_w _) _ hF
set_option maxHeartbeats 4000000 in
set_option maxRecDepth 100000 in
theorem wl_m_all_93 {w : Wd} {X : Cx} {r : Int} {M9 : Mm} (G0 : Gx LR w X "WhoRulesModel" b_m_all 10 10 228 (some .int)) (n : Nat) : ∀ (f : Nat) (x2 x3 x4 x5 x6 : Int) (hx2 : inR x2) (hx3 : inR x3) (hx4 : inR x4) (hx5 : inR x5) (hx6 : inR x6) (M : Mm), lp_m_all_93 n f x2 x3 x4 x5 x6 M = some (r, M9) → VJ LR w X 10 1 r M9 M [(0, .ref (wa w 0)), (2, .int (i32 x2)), (3, .int (i32 x3)), (4, .int (i32 x4)), (5, .int (i32 x5)), (6, .int (i32 x6))] [] 93 := by
  intro f
  induction f with
  | zero => intro x2 x3 x4 x5 x6 hx2 hx3 hx4 hx5 hx6 M hF; cases hF
  | succ f ih => intro x2 x3 x4 x5 x6 hx2 hx3 hx4 hx5 hx6 M hF; exact wk_m_all_93 G0 n (lp_m_all_93 n f) ih x2 x3 x4 x5 x6 hx2 hx3 hx4 hx5 hx6 M hF
set_option maxHeartbeats 4000000 in
set_option maxRecDepth 100000 in
theorem wk_m_all_61 {w : Wd} {X : Cx} {r : Int} {M9 : Mm} (G0 : Gx LR w X "WhoRulesModel" b_m_all 10 10 228 (some .int)) (n : Nat) (k61 : Int → Int → Int → Int → Mm → Rr) (hk61 : ∀ (x2 x3 x4 x5 : Int) (hx2 : inR x2) (hx3 : inR x3) (hx4 : inR x4) (hx5 : inR x5) (M : Mm), k61 x2 x3 x4 x5 M = some (r, M9) → VJ LR w X 10 1 r M9 M [(0, .ref (wa w 0)), (2, .int (i32 x2)), (3, .int (i32 x3)), (4, .int (i32 x4)), (5, .int (i32 x5))] [] 61) (x2 x3 x4 x5 : Int) (hx2 : inR x2) (hx3 : inR x3) (hx4 : inR x4) (hx5 : inR x5) (M : Mm) (hF : f_m_all_61 n k61 x2 x3 x4 x5 M = some (r, M9)) : VJ LR w X 10 1 r M9 M [(0, .ref (wa w 0)), (2, .int (i32 x2)), (3, .int (i32 x3)), (4, .int (i32 x4)), (5, .int (i32 x5))] [] 61 := by
  have G := G0.1
  unfold f_m_all_61 at hF
  refine vj_iload G (p9 := 4) d_m_all_61 rfl ?_
  refine vj_aload_n G (p9 := 0) d_m_all_63 rfl rfl ?_
  refine gfR_m_16 G d_m_all_64 ?_
  refine vj_mr (fun hM1 => ?_)
  refine vj_icmp_ge G (tgt := 87) d_m_all_67 (by decide) hx5 (mr_o hM1 lkR_0 flR_0_2) (fun c2 => ?_) (fun c2 => ?_)
  · rw [if_pos c2] at hF
    refine vj_iconst G (v := 0) d_m_all_87 rfl ?_
    refine vj_istore G (lv2 := [(5, .int (i32 0)), (0, .ref (wa w 0)), (2, .int (i32 x2)), (3, .int (i32 x3)), (4, .int (i32 x4))]) d_m_all_88 (by decide) rfl ?_
    refine vj_iconst G (v := 0) d_m_all_90 rfl ?_
    refine vj_istore G (lv2 := [(6, .int (i32 0)), (5, .int (i32 0)), (0, .ref (wa w 0)), (2, .int (i32 x2)), (3, .int (i32 x3)), (4, .int (i32 x4))]) d_m_all_91 (by decide) rfl ?_
    refine vj_sub [2, 3, 4, 5, 1, 0] rfl ?_
    exact wl_m_all_93 G0 n  n x2 x3 x4 0 0 hx2 hx3 hx4 ic_0 ic_0 _ hF
  · rw [if_neg c2] at hF
    refine vj_iload G (p9 := 3) d_m_all_70 rfl ?_
    refine vj_aload_n G (p9 := 0) d_m_all_72 rfl rfl ?_
    refine gfR_m_166 G d_m_all_73 ?_
    refine vj_mr (fun hM3 => ?_)
    refine vj_iconst G (v := 1) d_m_all_76 rfl ?_
    refine vj_iadd G d_m_all_77 ?_
    refine vj_imul G d_m_all_78 ?_
    refine vj_istore G (lv2 := [(4, .int (i32 (w32 (x4 * (w32 ((M 0 51) + 1)))))), (0, .ref (wa w 0)), (2, .int (i32 x2)), (3, .int (i32 x3)), (5, .int (i32 x5))]) d_m_all_79 (by decide) rfl ?_
    refine vj_iinc G (p9 := 4) (n := 1) (lv2 := [(5, .int (i32 (w32 (x5 + 1)))), (4, .int (i32 (w32 (x4 * (w32 ((M 0 51) + 1)))))), (0, .ref (wa w 0)), (2, .int (i32 x2)), (3, .int (i32 x3))]) d_m_all_81 rfl (by decide) rfl ?_
    refine vj_goto G (tgt := 61) d_m_all_84 (by decide) ?_
    refine vj_sub [2, 3, 4, 1, 0] rfl ?_
    exact hk61 x2 x3 (w32 (x4 * (w32 ((M 0 51) + 1)))) (w32 (x5 + 1)) hx2 hx3 (ir_w _) (ir_w _) _ hF
set_option maxHeartbeats 4000000 in
set_option maxRecDepth 100000 in
theorem wl_m_all_61 {w : Wd} {X : Cx} {r : Int} {M9 : Mm} (G0 : Gx LR w X "WhoRulesModel" b_m_all 10 10 228 (some .int)) (n : Nat) : ∀ (f : Nat) (x2 x3 x4 x5 : Int) (hx2 : inR x2) (hx3 : inR x3) (hx4 : inR x4) (hx5 : inR x5) (M : Mm), lp_m_all_61 n f x2 x3 x4 x5 M = some (r, M9) → VJ LR w X 10 1 r M9 M [(0, .ref (wa w 0)), (2, .int (i32 x2)), (3, .int (i32 x3)), (4, .int (i32 x4)), (5, .int (i32 x5))] [] 61 := by
  intro f
  induction f with
  | zero => intro x2 x3 x4 x5 hx2 hx3 hx4 hx5 M hF; cases hF
  | succ f ih => intro x2 x3 x4 x5 hx2 hx3 hx4 hx5 M hF; exact wk_m_all_61 G0 n (lp_m_all_61 n f) ih x2 x3 x4 x5 hx2 hx3 hx4 hx5 M hF
set_option maxHeartbeats 4000000 in
set_option maxRecDepth 100000 in
theorem ct_m_all {w : Wd} (hij : ij LR w) (n : Nat) (x1 x2 x3 : Int) (hx1 : inR x1) (hx2 : inR x2) (hx3 : inR x3) {M : Mm} {r : Int} {M9 : Mm} (hF : f_m_all n x1 x2 x3 M = some (r, M9)) : Ct LR w y_m_all b_m_all 10 (some .int) 10 228 1 [.ref (wa w 0), .int (i32 x1), .int (i32 x2), .int (i32 x3)] M r M9 := by
  refine Ct.of hij KstR (by decide +kernel) (Nat.le_of_ble_eq_true rfl) (fun X G0 => ?_)
  have G := G0.1
  show VJ LR w X 10 1 r M9 M [(0, .ref (wa w 0)), (1, .int (i32 x1)), (2, .int (i32 x2)), (3, .int (i32 x3))] [] 0
  unfold f_m_all at hF
  refine vj_aload_n G (p9 := 0) d_m_all_0 rfl rfl ?_
  refine vj_iload_n G (p9 := 1) d_m_all_1 rfl rfl ?_
  obtain ⟨r1, M1, e1, hF⟩ := bnd_some hF
  refine vj_callV3 G (ct_m_isDay (gx_ij G) n x1 hx1 e1) lkR_0 clR_0 rfl q_1587 cq_m_isDay rfl (by decide) (by decide) (Nat.le_of_ble_eq_true rfl) d_m_all_2 rfl (fun hr1 => ?_)
  refine vj_if_eq G (tgt := 21) d_m_all_5 (by decide) (ir_b hr1) (fun c2 => ?_) (fun c2 => ?_)
  · rw [if_pos c2] at hF
    refine vj_iconst G (v := (-1)) d_m_all_21 rfl ?_
    cases hF
    exact vj_iret G0 ic_m1 d_m_all_22
  · rw [if_neg c2] at hF
    refine vj_aload_n G (p9 := 0) d_m_all_8 rfl rfl ?_
    refine vj_iload_n G (p9 := 3) d_m_all_9 rfl rfl ?_
    obtain ⟨r3, M3, e3, hF⟩ := bnd_some hF
    refine vj_callV3 G (ct_m_isFirm (gx_ij G) n x3 hx3 e3) lkR_0 clR_0 rfl q_1555 cq_m_isFirm rfl (by decide) (by decide) (Nat.le_of_ble_eq_true rfl) d_m_all_10 rfl (fun hr3 => ?_)
    refine vj_if_eq G (tgt := 21) d_m_all_13 (by decide) (ir_b hr3) (fun c4 => ?_) (fun c4 => ?_)
    · rw [if_pos c4] at hF
      refine vj_iconst G (v := (-1)) d_m_all_21 rfl ?_
      cases hF
      exact vj_iret G0 ic_m1 d_m_all_22
    · rw [if_neg c4] at hF
      refine vj_iload_n G (p9 := 2) d_m_all_16 rfl rfl ?_
      refine vj_iconst G (v := (-1)) d_m_all_17 rfl ?_
      refine vj_icmp_ge G (tgt := 23) d_m_all_18 (by decide) hx2 ic_m1 (fun c5 => ?_) (fun c5 => ?_)
      · rw [if_pos c5] at hF
        refine vj_aload_n G (p9 := 0) d_m_all_23 rfl rfl ?_
        obtain ⟨r6, M6, e6, hF⟩ := bnd_some hF
        refine vj_callV0 G (ct_m_listRulers (gx_ij G) n   e6) lkR_0 clR_0 rfl q_1728 cq_m_listRulers rfl (by decide) (by decide) (Nat.le_of_ble_eq_true rfl) d_m_all_24 rfl (fun hr6 => ?_)
        refine vj_aload_n G (p9 := 0) d_m_all_27 rfl rfl ?_
        refine gfR_m_16 G d_m_all_28 ?_
        refine vj_mr (fun hM7 => ?_)
        refine vj_iconst G (v := 5) d_m_all_31 rfl ?_
        refine vj_icmp_gt G (tgt := 43) d_m_all_32 (by decide) (mr_o hM7 lkR_0 flR_0_2) ic_5 (fun c8 => ?_) (fun c8 => ?_)
        · rw [if_pos c8] at hF
          refine vj_bipush G (v := (-9)) d_m_all_43 rfl ?_
          cases hF
          exact vj_iret G0 ic_m9 d_m_all_45
        · rw [if_neg c8] at hF
          refine vj_aload_n G (p9 := 0) d_m_all_35 rfl rfl ?_
          refine gfR_m_166 G d_m_all_36 ?_
          refine vj_mr (fun hM9 => ?_)
          refine vj_iconst G (v := 4) d_m_all_39 rfl ?_
          refine vj_icmp_le G (tgt := 46) d_m_all_40 (by decide) (mr_o hM9 lkR_0 flR_0_51) ic_4 (fun c10 => ?_) (fun c10 => ?_)
          · rw [if_pos c10] at hF
            refine vj_aload_n G (p9 := 0) d_m_all_46 rfl rfl ?_
            refine vj_iload_n G (p9 := 1) d_m_all_47 rfl rfl ?_
            obtain ⟨r11, M11, e11, hF⟩ := bnd_some hF
            refine vj_callV0 G (ct_m_look (gx_ij G) n x1 hx1 e11) lkR_0 clR_0 rfl q_1672 cq_m_look rfl (by decide) (by decide) (Nat.le_of_ble_eq_true rfl) d_m_all_48 rfl (fun hr11 => ?_)
            refine vj_aload_n G (p9 := 0) d_m_all_51 rfl rfl ?_
            obtain ⟨r12, M12, e12, hF⟩ := bnd_some hF
            refine vj_callV0 G (ct_m_nobodyRules (gx_ij G) n   e12) lkR_0 clR_0 rfl q_1704 cq_m_nobodyRules rfl (by decide) (by decide) (Nat.le_of_ble_eq_true rfl) d_m_all_52 rfl (fun hr12 => ?_)
            refine vj_iconst G (v := 1) d_m_all_55 rfl ?_
            refine vj_istore G (lv2 := [(4, .int (i32 1)), (0, .ref (wa w 0)), (1, .int (i32 x1)), (2, .int (i32 x2)), (3, .int (i32 x3))]) d_m_all_56 (by decide) rfl ?_
            refine vj_iconst G (v := 0) d_m_all_58 rfl ?_
            refine vj_istore G (lv2 := [(5, .int (i32 0)), (4, .int (i32 1)), (0, .ref (wa w 0)), (1, .int (i32 x1)), (2, .int (i32 x2)), (3, .int (i32 x3))]) d_m_all_59 (by decide) rfl ?_
            refine vj_sub [2, 4, 5, 1, 0] rfl ?_
            exact wl_m_all_61 G0 n  n x2 x3 1 0 hx2 hx3 ic_1 ic_0 _ hF
          · rw [if_neg c10] at hF
            refine vj_bipush G (v := (-9)) d_m_all_43 rfl ?_
            cases hF
            exact vj_iret G0 ic_m9 d_m_all_45
      · rw [if_neg c5] at hF
        refine vj_iconst G (v := (-1)) d_m_all_21 rfl ?_
        cases hF
        exact vj_iret G0 ic_m1 d_m_all_22
set_option maxHeartbeats 4000000 in
set_option maxRecDepth 100000 in
theorem ct_m_isTape {w : Wd} (hij : ij LR w) (n : Nat) (x1 : Int) (hx1 : inR x1) {M : Mm} {r : Int} {M9 : Mm} (hF : f_m_isTape n x1 M = some (r, M9)) : Ct LR w y_m_isTape b_m_isTape 2 (some .boolean) 1 23 3 [.ref (wa w 0), .int (i32 x1)] M r M9 := by
  refine Ct.of hij KstR (by decide +kernel) (Nat.le_of_ble_eq_true rfl) (fun X G0 => ?_)
  have G := G0.1
  show VJ LR w X 2 3 r M9 M [(0, .ref (wa w 0)), (1, .int (i32 x1))] [] 0
  unfold f_m_isTape at hF
  refine vj_aload_n G (p9 := 0) d_m_isTape_0 rfl rfl ?_
  refine vj_iload_n G (p9 := 1) d_m_isTape_1 rfl rfl ?_
  refine vj_iconst G (v := 0) d_m_isTape_2 rfl ?_
  refine vj_iconst G (v := 5) d_m_isTape_3 rfl ?_
  obtain ⟨r1, M1, e1, hF⟩ := bnd_some hF
  refine vj_callV3 G (ct_m_in (gx_ij G) n x1 0 5 hx1 ic_0 ic_5 e1) lkR_0 clR_0 rfl q_1543 cq_m_in rfl (by decide) (by decide) (Nat.le_of_ble_eq_true rfl) d_m_isTape_4 rfl (fun hr1 => ?_)
  cases hF
  exact vj_zret G0 hr1 d_m_isTape_7
set_option maxHeartbeats 4000000 in
set_option maxRecDepth 100000 in
theorem wk_m_proof_232 {w : Wd} {X : Cx} {r : Int} {M9 : Mm} (G0 : Gx LR w X "WhoRulesModel" b_m_proof 8 10 228 (some .int)) (n : Nat) (x4 x5 : Int) (hx4 : inB x4) (hx5 : inR x5) (M : Mm) (hF : f_m_proof_232 n x4 x5 M = some (r, M9)) : VJ LR w X 8 1 r M9 M [(4, .int (i32 x4)), (5, .int (i32 x5))] [] 232 := by
  have G := G0.1
  unfold f_m_proof_232 at hF
  refine vj_iload G (p9 := 0) d_m_proof_232 rfl ?_
  refine vj_if_eq G (tgt := 245) d_m_proof_234 (by decide) (ir_b hx4) (fun c1 => ?_) (fun c1 => ?_)
  · rw [if_pos c1] at hF
    refine vj_iload G (p9 := 1) d_m_proof_245 rfl ?_
    cases hF
    exact vj_iret G0 hx5 d_m_proof_247
  · rw [if_neg c1] at hF
    refine vj_iload G (p9 := 1) d_m_proof_237 rfl ?_
    refine vj_bipush G (v := 100) d_m_proof_239 rfl ?_
    refine vj_iadd G d_m_proof_241 ?_
    refine vj_goto G (tgt := 247) d_m_proof_242 (by decide) ?_
    cases hF
    exact vj_iret G0 (ir_w _) d_m_proof_247
set_option maxHeartbeats 4000000 in
set_option maxRecDepth 100000 in
theorem wk_m_proof_95 {w : Wd} {X : Cx} {r : Int} {M9 : Mm} (G0 : Gx LR w X "WhoRulesModel" b_m_proof 8 10 228 (some .int)) (n : Nat) (k95 : Int → Int → Int → Int → Int → Mm → Rr) (hk95 : ∀ (x1 x2 x3 x4 x5 : Int) (hx1 : inR x1) (hx2 : inR x2) (hx3 : inR x3) (hx4 : inB x4) (hx5 : inR x5) (M : Mm), k95 x1 x2 x3 x4 x5 M = some (r, M9) → VJ LR w X 8 1 r M9 M [(0, .ref (wa w 0)), (1, .int (i32 x1)), (2, .int (i32 x2)), (3, .int (i32 x3)), (4, .int (i32 x4)), (5, .int (i32 x5))] [] 95) (x1 x2 x3 x4 x5 : Int) (hx1 : inR x1) (hx2 : inR x2) (hx3 : inR x3) (hx4 : inB x4) (hx5 : inR x5) (M : Mm) (hF : f_m_proof_95 n k95 x1 x2 x3 x4 x5 M = some (r, M9)) : VJ LR w X 8 1 r M9 M [(0, .ref (wa w 0)), (1, .int (i32 x1)), (2, .int (i32 x2)), (3, .int (i32 x3)), (4, .int (i32 x4)), (5, .int (i32 x5))] [] 95 := by
  have G := G0.1
  unfold f_m_proof_95 at hF
  refine vj_iload G (p9 := 5) d_m_proof_95 rfl ?_
  refine vj_iload_n G (p9 := 3) d_m_proof_97 rfl rfl ?_
  refine vj_icmp_ge G (tgt := 232) d_m_proof_98 (by decide) hx5 hx3 (fun c1 => ?_) (fun c1 => ?_)
  · rw [if_pos c1] at hF
    refine vj_sub [4, 5] rfl ?_
    exact wk_m_proof_232 G0 n  x4 x5 hx4 hx5 _ hF
  · rw [if_neg c1] at hF
    refine vj_aload_n G (p9 := 0) d_m_proof_101 rfl rfl ?_
    refine gfR_m_234 G d_m_proof_102 ?_
    refine vj_iload_n G (p9 := 1) d_m_proof_105 rfl rfl ?_
    obtain ⟨c2, hF⟩ := ck_some hF
    refine vj_iald G (x := x1) lkR_47 (by decide) c2 d_m_proof_106 ?_
    refine vj_mr (fun hM3 => ?_)
    refine vj_if_lt G (tgt := 232) d_m_proof_107 (by decide) (mr_a hM3 lkR_47) (fun c4 => ?_) (fun c4 => ?_)
    · rw [if_pos c4] at hF
      refine vj_sub [4, 5] rfl ?_
      exact wk_m_proof_232 G0 n  x4 x5 hx4 hx5 _ hF
    · rw [if_neg c4] at hF
      refine vj_iload_n G (p9 := 2) d_m_proof_110 rfl rfl ?_
      refine vj_if_lt G (tgt := 232) d_m_proof_111 (by decide) hx2 (fun c5 => ?_) (fun c5 => ?_)
      · rw [if_pos c5] at hF
        refine vj_sub [4, 5] rfl ?_
        exact wk_m_proof_232 G0 n  x4 x5 hx4 hx5 _ hF
      · rw [if_neg c5] at hF
        refine vj_iload_n G (p9 := 2) d_m_proof_114 rfl rfl ?_
        refine vj_aload_n G (p9 := 0) d_m_proof_115 rfl rfl ?_
        refine gfR_m_237 G d_m_proof_116 ?_
        refine vj_iload_n G (p9 := 1) d_m_proof_119 rfl rfl ?_
        obtain ⟨c6, hF⟩ := ck_some hF
        refine vj_iald G (x := x1) lkR_48 (by decide) c6 d_m_proof_120 ?_
        refine vj_mr (fun hM7 => ?_)
        refine vj_iconst G (v := 2) d_m_proof_121 rfl ?_
        refine vj_iload G (p9 := 5) d_m_proof_122 rfl ?_
        refine vj_imul G d_m_proof_124 ?_
        refine vj_isub G d_m_proof_125 ?_
        refine vj_iconst G (v := 2) d_m_proof_126 rfl ?_
        refine vj_isub G d_m_proof_127 ?_
        refine vj_icmp_gt G (tgt := 232) d_m_proof_128 (by decide) hx2 (ir_w _) (fun c8 => ?_) (fun c8 => ?_)
        · rw [if_pos c8] at hF
          refine vj_sub [4, 5] rfl ?_
          exact wk_m_proof_232 G0 n  x4 x5 hx4 hx5 _ hF
        · rw [if_neg c8] at hF
          refine vj_aload_n G (p9 := 0) d_m_proof_131 rfl rfl ?_
          refine gfR_m_240 G d_m_proof_132 ?_
          refine vj_bipush G (v := 60) d_m_proof_135 rfl ?_
          refine vj_iload_n G (p9 := 1) d_m_proof_137 rfl rfl ?_
          refine vj_imul G d_m_proof_138 ?_
          refine vj_iload_n G (p9 := 2) d_m_proof_139 rfl rfl ?_
          refine vj_iadd G d_m_proof_140 ?_
          refine vj_iconst G (v := 2) d_m_proof_141 rfl ?_
          refine vj_iload G (p9 := 5) d_m_proof_142 rfl ?_
          refine vj_imul G d_m_proof_144 ?_
          refine vj_iadd G d_m_proof_145 ?_
          obtain ⟨c9, hF⟩ := ck_some hF
          refine vj_lald G (x := w32 ((w32 ((w32 (60 * x1)) + x2)) + (w32 (2 * x5)))) lkR_49 (by decide) c9 d_m_proof_146 ?_
          refine vj_mr (fun hM10 => ?_)
          refine vj_l2i G d_m_proof_147 ?_
          refine vj_istore G (lv2 := [(6, .int (i32 (w32 (M 49 (w32 ((w32 ((w32 (60 * x1)) + x2)) + (w32 (2 * x5)))).toNat)))), (0, .ref (wa w 0)), (1, .int (i32 x1)), (2, .int (i32 x2)), (3, .int (i32 x3)), (4, .int (i32 x4)), (5, .int (i32 x5))]) d_m_proof_148 (by decide) rfl ?_
          refine vj_aload_n G (p9 := 1) d_m_proof_150 rfl rfl ?_
          refine gfR_m_240 G d_m_proof_151 ?_
          refine vj_bipush G (v := 60) d_m_proof_154 rfl ?_
          refine vj_iload_n G (p9 := 2) d_m_proof_156 rfl rfl ?_
          refine vj_imul G d_m_proof_157 ?_
          refine vj_iload_n G (p9 := 3) d_m_proof_158 rfl rfl ?_
          refine vj_iadd G d_m_proof_159 ?_
          refine vj_iconst G (v := 2) d_m_proof_160 rfl ?_
          refine vj_iload G (p9 := 6) d_m_proof_161 rfl ?_
          refine vj_imul G d_m_proof_163 ?_
          refine vj_iadd G d_m_proof_164 ?_
          refine vj_iconst G (v := 1) d_m_proof_165 rfl ?_
          refine vj_iadd G d_m_proof_166 ?_
          obtain ⟨c11, hF⟩ := ck_some hF
          refine vj_lald G (x := w32 ((w32 ((w32 ((w32 (60 * x1)) + x2)) + (w32 (2 * x5)))) + 1)) lkR_49 (by decide) c11 d_m_proof_167 ?_
          refine vj_l2i G d_m_proof_168 ?_
          refine vj_istore G (lv2 := [(7, .int (i32 (w32 (M 49 (w32 ((w32 ((w32 ((w32 (60 * x1)) + x2)) + (w32 (2 * x5)))) + 1)).toNat)))), (6, .int (i32 (w32 (M 49 (w32 ((w32 ((w32 (60 * x1)) + x2)) + (w32 (2 * x5)))).toNat)))), (0, .ref (wa w 0)), (1, .int (i32 x1)), (2, .int (i32 x2)), (3, .int (i32 x3)), (4, .int (i32 x4)), (5, .int (i32 x5))]) d_m_proof_169 (by decide) rfl ?_
          refine vj_aload_n G (p9 := 2) d_m_proof_171 rfl rfl ?_
          refine vj_iload G (p9 := 1) d_m_proof_172 rfl ?_
          obtain ⟨r12, M12, e12, hF⟩ := bnd_some hF
          refine vj_callV3 G (ct_m_isFirm (gx_ij G) n (w32 (M 49 (w32 ((w32 ((w32 (60 * x1)) + x2)) + (w32 (2 * x5)))).toNat)) (ir_w _) e12) lkR_0 clR_0 rfl q_1555 cq_m_isFirm rfl (by decide) (by decide) (Nat.le_of_ble_eq_true rfl) d_m_proof_174 rfl (fun hr12 => ?_)
          refine vj_if_eq G (tgt := 232) d_m_proof_177 (by decide) (ir_b hr12) (fun c13 => ?_) (fun c13 => ?_)
          · rw [if_pos c13] at hF
            refine vj_sub [6, 7] rfl ?_
            exact wk_m_proof_232 G0 n  x4 x5 hx4 hx5 _ hF
          · rw [if_neg c13] at hF
            refine vj_aload_n G (p9 := 2) d_m_proof_180 rfl rfl ?_
            refine gfR_m_151 G d_m_proof_181 ?_
            refine vj_iload G (p9 := 1) d_m_proof_184 rfl ?_
            obtain ⟨c14, hF⟩ := ck_some hF
            refine vj_iald G (x := w32 (M 49 (w32 ((w32 ((w32 (60 * x1)) + x2)) + (w32 (2 * x5)))).toNat)) lkR_29 (by decide) c14 d_m_proof_186 ?_
            refine vj_mr (fun hM15 => ?_)
            refine vj_if_ge G (tgt := 232) d_m_proof_187 (by decide) (mr_a hM15 lkR_29) (fun c16 => ?_) (fun c16 => ?_)
            · rw [if_pos c16] at hF
              refine vj_sub [6, 7] rfl ?_
              exact wk_m_proof_232 G0 n  x4 x5 hx4 hx5 _ hF
            · rw [if_neg c16] at hF
              refine vj_aload_n G (p9 := 2) d_m_proof_190 rfl rfl ?_
              refine vj_iload G (p9 := 0) d_m_proof_191 rfl ?_
              obtain ⟨r17, M17, e17, hF⟩ := bnd_some hF
              refine vj_callV3 G (ct_m_isRuler (gx_ij G) n (w32 (M 49 (w32 ((w32 ((w32 ((w32 (60 * x1)) + x2)) + (w32 (2 * x5)))) + 1)).toNat)) (ir_w _) e17) lkR_0 clR_0 rfl q_1708 cq_m_isRuler rfl (by decide) (by decide) (Nat.le_of_ble_eq_true rfl) d_m_proof_193 rfl (fun hr17 => ?_)
              refine vj_if_eq G (tgt := 232) d_m_proof_196 (by decide) (ir_b hr17) (fun c18 => ?_) (fun c18 => ?_)
              · rw [if_pos c18] at hF
                refine vj_sub [6, 7] rfl ?_
                exact wk_m_proof_232 G0 n  x4 x5 hx4 hx5 _ hF
              · rw [if_neg c18] at hF
                refine vj_aload_n G (p9 := 2) d_m_proof_199 rfl rfl ?_
                refine vj_iload G (p9 := 1) d_m_proof_200 rfl ?_
                refine vj_aload_n G (p9 := 2) d_m_proof_202 rfl rfl ?_
                refine vj_iload G (p9 := 0) d_m_proof_203 rfl ?_
                obtain ⟨r19, M19, e19, hF⟩ := bnd_some hF
                refine vj_callV1 G (ct_m_groupOf (gx_ij G) n (w32 (M 49 (w32 ((w32 ((w32 ((w32 (60 * x1)) + x2)) + (w32 (2 * x5)))) + 1)).toNat)) (ir_w _) e19) lkR_0 clR_0 rfl q_1716 cq_m_groupOf rfl (by decide) (by decide) (Nat.le_of_ble_eq_true rfl) d_m_proof_205 rfl (fun hr19 => ?_)
                obtain ⟨r20, M20, e20, hF⟩ := bnd_some hF
                refine vj_callV3 G (ct_m_carries (gx_ij G) n (w32 (M 49 (w32 ((w32 ((w32 (60 * x1)) + x2)) + (w32 (2 * x5)))).toNat)) r19 (ir_w _) hr19 e20) lkR_0 clR_0 rfl q_1688 cq_m_carries rfl (by decide) (by decide) (Nat.le_of_ble_eq_true rfl) d_m_proof_208 rfl (fun hr20 => ?_)
                refine vj_if_ne G (tgt := 217) d_m_proof_211 (by decide) (ir_b hr20) (fun c21 => ?_) (fun c21 => ?_)
                · rw [if_pos c21] at hF
                  refine vj_aload_n G (p9 := 2) d_m_proof_217 rfl rfl ?_
                  refine gfR_m_151 G d_m_proof_218 ?_
                  refine vj_iload G (p9 := 1) d_m_proof_221 rfl ?_
                  refine vj_iload G (p9 := 0) d_m_proof_223 rfl ?_
                  obtain ⟨c22, hF⟩ := ck_some hF
                  refine vj_iast G (x := w32 (M 49 (w32 ((w32 ((w32 (60 * x1)) + x2)) + (w32 (2 * x5)))).toNat)) lkR_29 (by decide) (by decide) (by decide) c22 (ir_w _) d_m_proof_225 ?_
                  refine vj_iinc G (p9 := 7) (n := 1) (lv2 := [(5, .int (i32 (w32 (x5 + 1)))), (7, .int (i32 (w32 (M 49 (w32 ((w32 ((w32 ((w32 (60 * x1)) + x2)) + (w32 (2 * x5)))) + 1)).toNat)))), (6, .int (i32 (w32 (M 49 (w32 ((w32 ((w32 (60 * x1)) + x2)) + (w32 (2 * x5)))).toNat)))), (0, .ref (wa w 0)), (1, .int (i32 x1)), (2, .int (i32 x2)), (3, .int (i32 x3)), (4, .int (i32 x4))]) d_m_proof_226 rfl (by decide) rfl ?_
                  refine vj_goto G (tgt := 95) d_m_proof_229 (by decide) ?_
                  refine vj_sub [3, 4, 5, 6, 7, 0] rfl ?_
                  exact hk95 x1 x2 x3 x4 (w32 (x5 + 1)) hx1 hx2 hx3 hx4 (ir_w _) _ hF
                · rw [if_neg c21] at hF
                  refine vj_goto G (tgt := 232) d_m_proof_214 (by decide) ?_
                  refine vj_sub [6, 7] rfl ?_
                  exact wk_m_proof_232 G0 n  x4 x5 hx4 hx5 _ hF
set_option maxHeartbeats 4000000 in
set_option maxRecDepth 100000 in
theorem wl_m_proof_95 {w : Wd} {X : Cx} {r : Int} {M9 : Mm} (G0 : Gx LR w X "WhoRulesModel" b_m_proof 8 10 228 (some .int)) (n : Nat) : ∀ (f : Nat) (x1 x2 x3 x4 x5 : Int) (hx1 : inR x1) (hx2 : inR x2) (hx3 : inR x3) (hx4 : inB x4) (hx5 : inR x5) (M : Mm), lp_m_proof_95 n f x1 x2 x3 x4 x5 M = some (r, M9) → VJ LR w X 8 1 r M9 M [(0, .ref (wa w 0)), (1, .int (i32 x1)), (2, .int (i32 x2)), (3, .int (i32 x3)), (4, .int (i32 x4)), (5, .int (i32 x5))] [] 95 := by
  intro f
  induction f with
  | zero => intro x1 x2 x3 x4 x5 hx1 hx2 hx3 hx4 hx5 M hF; cases hF
  | succ f ih => intro x1 x2 x3 x4 x5 hx1 hx2 hx3 hx4 hx5 M hF; exact wk_m_proof_95 G0 n (lp_m_proof_95 n f) ih x1 x2 x3 x4 x5 hx1 hx2 hx3 hx4 hx5 M hF
set_option maxHeartbeats 4000000 in
set_option maxRecDepth 100000 in
theorem wk_m_proof_78 {w : Wd} {X : Cx} {r : Int} {M9 : Mm} (G0 : Gx LR w X "WhoRulesModel" b_m_proof 8 10 228 (some .int)) (n : Nat) (x1 x2 x3 s0 : Int) (hx1 : inR x1) (hx2 : inR x2) (hx3 : inR x3) (hs0 : inB s0) (M : Mm) (hF : f_m_proof_78 n x1 x2 x3 s0 M = some (r, M9)) : VJ LR w X 8 1 r M9 M [(0, .ref (wa w 0)), (1, .int (i32 x1)), (2, .int (i32 x2)), (3, .int (i32 x3))] [.int (i32 s0)] 78 := by
  have G := G0.1
  unfold f_m_proof_78 at hF
  refine vj_istore G (lv2 := [(4, .int (i32 s0)), (0, .ref (wa w 0)), (1, .int (i32 x1)), (2, .int (i32 x2)), (3, .int (i32 x3))]) d_m_proof_78 (by decide) rfl ?_
  refine vj_aload_n G (p9 := 1) d_m_proof_80 rfl rfl ?_
  refine vj_aload_n G (p9 := 1) d_m_proof_81 rfl rfl ?_
  refine gfR_m_7 G d_m_proof_82 ?_
  refine vj_mr (fun hM1 => ?_)
  obtain ⟨r2, M2, e2, hF⟩ := bnd_some hF
  refine vj_callV0 G (ct_m_look (gx_ij G) n (M 0 0) (mr_o hM1 lkR_0 flR_0_0) e2) lkR_0 clR_0 rfl q_1672 cq_m_look rfl (by decide) (by decide) (Nat.le_of_ble_eq_true rfl) d_m_proof_85 rfl (fun hr2 => ?_)
  refine vj_aload_n G (p9 := 1) d_m_proof_88 rfl rfl ?_
  obtain ⟨r3, M3, e3, hF⟩ := bnd_some hF
  refine vj_callV0 G (ct_m_nobodyRules (gx_ij G) n   e3) lkR_0 clR_0 rfl q_1704 cq_m_nobodyRules rfl (by decide) (by decide) (Nat.le_of_ble_eq_true rfl) d_m_proof_89 rfl (fun hr3 => ?_)
  refine vj_iconst G (v := 0) d_m_proof_92 rfl ?_
  refine vj_istore G (lv2 := [(5, .int (i32 0)), (4, .int (i32 s0)), (0, .ref (wa w 0)), (1, .int (i32 x1)), (2, .int (i32 x2)), (3, .int (i32 x3))]) d_m_proof_93 (by decide) rfl ?_
  refine vj_sub [2, 3, 4, 5, 1, 0] rfl ?_
  exact wl_m_proof_95 G0 n  n x1 x2 x3 s0 0 hx1 hx2 hx3 hs0 ic_0 _ hF
set_option maxHeartbeats 4000000 in
set_option maxRecDepth 100000 in
theorem wk_m_proof_46 {w : Wd} {X : Cx} {r : Int} {M9 : Mm} (G0 : Gx LR w X "WhoRulesModel" b_m_proof 8 10 228 (some .int)) (n : Nat) (x1 x2 x3 : Int) (hx1 : inR x1) (hx2 : inR x2) (hx3 : inR x3) (M : Mm) (hF : f_m_proof_46 n x1 x2 x3 M = some (r, M9)) : VJ LR w X 8 1 r M9 M [(0, .ref (wa w 0)), (1, .int (i32 x1)), (2, .int (i32 x2)), (3, .int (i32 x3))] [] 46 := by
  have G := G0.1
  unfold f_m_proof_46 at hF
  refine vj_aload_n G (p9 := 0) d_m_proof_46 rfl rfl ?_
  refine gfR_m_234 G d_m_proof_47 ?_
  refine vj_iload_n G (p9 := 1) d_m_proof_50 rfl rfl ?_
  obtain ⟨c1, hF⟩ := ck_some hF
  refine vj_iald G (x := x1) lkR_47 (by decide) c1 d_m_proof_51 ?_
  refine vj_mr (fun hM2 => ?_)
  refine vj_if_lt G (tgt := 73) d_m_proof_52 (by decide) (mr_a hM2 lkR_47) (fun c3 => ?_) (fun c3 => ?_)
  · rw [if_pos c3] at hF
    refine vj_iconst G (v := 1) d_m_proof_73 rfl ?_
    refine vj_goto G (tgt := 78) d_m_proof_74 (by decide) ?_
    exact wk_m_proof_78 G0 n  x1 x2 x3 1 hx1 hx2 hx3 (Or.inr rfl) _ hF
  · rw [if_neg c3] at hF
    refine vj_iload_n G (p9 := 2) d_m_proof_55 rfl rfl ?_
    refine vj_if_lt G (tgt := 73) d_m_proof_56 (by decide) hx2 (fun c4 => ?_) (fun c4 => ?_)
    · rw [if_pos c4] at hF
      refine vj_iconst G (v := 1) d_m_proof_73 rfl ?_
      refine vj_goto G (tgt := 78) d_m_proof_74 (by decide) ?_
      exact wk_m_proof_78 G0 n  x1 x2 x3 1 hx1 hx2 hx3 (Or.inr rfl) _ hF
    · rw [if_neg c4] at hF
      refine vj_iload_n G (p9 := 2) d_m_proof_59 rfl rfl ?_
      refine vj_aload_n G (p9 := 0) d_m_proof_60 rfl rfl ?_
      refine gfR_m_237 G d_m_proof_61 ?_
      refine vj_iload_n G (p9 := 1) d_m_proof_64 rfl rfl ?_
      obtain ⟨c5, hF⟩ := ck_some hF
      refine vj_iald G (x := x1) lkR_48 (by decide) c5 d_m_proof_65 ?_
      refine vj_mr (fun hM6 => ?_)
      refine vj_iconst G (v := 2) d_m_proof_66 rfl ?_
      refine vj_iload_n G (p9 := 3) d_m_proof_67 rfl rfl ?_
      refine vj_imul G d_m_proof_68 ?_
      refine vj_isub G d_m_proof_69 ?_
      refine vj_icmp_le G (tgt := 77) d_m_proof_70 (by decide) hx2 (ir_w _) (fun c7 => ?_) (fun c7 => ?_)
      · rw [if_pos c7] at hF
        refine vj_iconst G (v := 0) d_m_proof_77 rfl ?_
        exact wk_m_proof_78 G0 n  x1 x2 x3 0 hx1 hx2 hx3 (Or.inl rfl) _ hF
      · rw [if_neg c7] at hF
        refine vj_iconst G (v := 1) d_m_proof_73 rfl ?_
        refine vj_goto G (tgt := 78) d_m_proof_74 (by decide) ?_
        exact wk_m_proof_78 G0 n  x1 x2 x3 1 hx1 hx2 hx3 (Or.inr rfl) _ hF
set_option maxHeartbeats 4000000 in
set_option maxRecDepth 100000 in
theorem ct_m_proof {w : Wd} (hij : ij LR w) (n : Nat) (x1 x2 x3 : Int) (hx1 : inR x1) (hx2 : inR x2) (hx3 : inR x3) {M : Mm} {r : Int} {M9 : Mm} (hF : f_m_proof n x1 x2 x3 M = some (r, M9)) : Ct LR w y_m_proof b_m_proof 8 (some .int) 10 228 1 [.ref (wa w 0), .int (i32 x1), .int (i32 x2), .int (i32 x3)] M r M9 := by
  refine Ct.of hij KstR (by decide +kernel) (Nat.le_of_ble_eq_true rfl) (fun X G0 => ?_)
  have G := G0.1
  show VJ LR w X 8 1 r M9 M [(0, .ref (wa w 0)), (1, .int (i32 x1)), (2, .int (i32 x2)), (3, .int (i32 x3))] [] 0
  unfold f_m_proof at hF
  refine vj_aload_n G (p9 := 0) d_m_proof_0 rfl rfl ?_
  refine vj_iload_n G (p9 := 1) d_m_proof_1 rfl rfl ?_
  obtain ⟨r1, M1, e1, hF⟩ := bnd_some hF
  refine vj_callV3 G (ct_m_isTape (gx_ij G) n x1 hx1 e1) lkR_0 clR_0 rfl q_1740 cq_m_isTape rfl (by decide) (by decide) (Nat.le_of_ble_eq_true rfl) d_m_proof_2 rfl (fun hr1 => ?_)
  refine vj_if_ne G (tgt := 10) d_m_proof_5 (by decide) (ir_b hr1) (fun c2 => ?_) (fun c2 => ?_)
  · rw [if_pos c2] at hF
    refine vj_aload_n G (p9 := 0) d_m_proof_10 rfl rfl ?_
    refine vj_iload_n G (p9 := 3) d_m_proof_11 rfl rfl ?_
    refine vj_iconst G (v := 1) d_m_proof_12 rfl ?_
    refine vj_bipush G (v := 7) d_m_proof_13 rfl ?_
    obtain ⟨r3, M3, e3, hF⟩ := bnd_some hF
    refine vj_callV3 G (ct_m_in (gx_ij G) n x3 1 7 hx3 ic_1 ic_7 e3) lkR_0 clR_0 rfl q_1543 cq_m_in rfl (by decide) (by decide) (Nat.le_of_ble_eq_true rfl) d_m_proof_15 rfl (fun hr3 => ?_)
    refine vj_if_ne G (tgt := 24) d_m_proof_18 (by decide) (ir_b hr3) (fun c4 => ?_) (fun c4 => ?_)
    · rw [if_pos c4] at hF
      refine vj_aload_n G (p9 := 0) d_m_proof_24 rfl rfl ?_
      refine gfR_m_234 G d_m_proof_25 ?_
      refine vj_iload_n G (p9 := 1) d_m_proof_28 rfl rfl ?_
      obtain ⟨c5, hF⟩ := ck_some hF
      refine vj_iald G (x := x1) lkR_47 (by decide) c5 d_m_proof_29 ?_
      refine vj_mr (fun hM6 => ?_)
      refine vj_if_lt G (tgt := 46) d_m_proof_30 (by decide) (mr_a hM6 lkR_47) (fun c7 => ?_) (fun c7 => ?_)
      · rw [if_pos c7] at hF
        exact wk_m_proof_46 G0 n  x1 x2 x3 hx1 hx2 hx3 _ hF
      · rw [if_neg c7] at hF
        refine vj_aload_n G (p9 := 0) d_m_proof_33 rfl rfl ?_
        refine gfR_m_234 G d_m_proof_34 ?_
        refine vj_iload_n G (p9 := 1) d_m_proof_37 rfl rfl ?_
        obtain ⟨c8, hF⟩ := ck_some hF
        refine vj_iald G (x := x1) lkR_47 (by decide) c8 d_m_proof_38 ?_
        refine vj_mr (fun hM9 => ?_)
        refine vj_iconst G (v := 1) d_m_proof_39 rfl ?_
        refine vj_icmp_eq G (tgt := 46) d_m_proof_40 (by decide) (mr_a hM9 lkR_47) ic_1 (fun c10 => ?_) (fun c10 => ?_)
        · rw [if_pos c10] at hF
          exact wk_m_proof_46 G0 n  x1 x2 x3 hx1 hx2 hx3 _ hF
        · rw [if_neg c10] at hF
          refine vj_bipush G (v := (-12)) d_m_proof_43 rfl ?_
          cases hF
          exact vj_iret G0 ic_m12 d_m_proof_45
    · rw [if_neg c4] at hF
      refine vj_bipush G (v := (-2)) d_m_proof_21 rfl ?_
      cases hF
      exact vj_iret G0 ic_m2 d_m_proof_23
  · rw [if_neg c2] at hF
    refine vj_iconst G (v := (-1)) d_m_proof_8 rfl ?_
    cases hF
    exact vj_iret G0 ic_m1 d_m_proof_9
set_option maxHeartbeats 4000000 in
set_option maxRecDepth 100000 in
theorem wk_m_missing_43 {w : Wd} {X : Cx} {r : Int} {M9 : Mm} (G0 : Gx LR w X "WhoRulesModel" b_m_missing 4 0 0 (some .int)) (n : Nat) (k5 : Int → Int → Int → Mm → Rr) (hk5 : ∀ (x1 x2 x3 : Int) (hx1 : inR x1) (hx2 : inR x2) (hx3 : inR x3) (M : Mm), k5 x1 x2 x3 M = some (r, M9) → VJ LR w X 4 1 r M9 M [(0, .ref (wa w 0)), (1, .int (i32 x1)), (2, .int (i32 x2)), (3, .int (i32 x3))] [] 5) (x1 x3 s0 s1 : Int) (hx1 : inR x1) (hx3 : inR x3) (hs0 : inR s0) (hs1 : inR s1) (M : Mm) (hF : f_m_missing_43 n k5 x1 x3 s0 s1 M = some (r, M9)) : VJ LR w X 4 1 r M9 M [(0, .ref (wa w 0)), (1, .int (i32 x1)), (3, .int (i32 x3))] [.int (i32 s1), .int (i32 s0)] 43 := by
  have G := G0.1
  unfold f_m_missing_43 at hF
  refine vj_isub G d_m_missing_43 ?_
  refine vj_istore_n G (lv2 := [(2, .int (i32 (w32 (s0 - s1)))), (0, .ref (wa w 0)), (1, .int (i32 x1)), (3, .int (i32 x3))]) d_m_missing_44 rfl (by decide) rfl ?_
  refine vj_iinc G (p9 := 3) (n := 1) (lv2 := [(3, .int (i32 (w32 (x3 + 1)))), (2, .int (i32 (w32 (s0 - s1)))), (0, .ref (wa w 0)), (1, .int (i32 x1))]) d_m_missing_45 rfl (by decide) rfl ?_
  refine vj_goto G (tgt := 5) d_m_missing_48 (by decide) ?_
  refine vj_sub [2, 3, 1, 0] rfl ?_
  exact hk5 x1 (w32 (s0 - s1)) (w32 (x3 + 1)) hx1 (ir_w _) (ir_w _) _ hF
set_option maxHeartbeats 4000000 in
set_option maxRecDepth 100000 in
theorem wk_m_missing_42 {w : Wd} {X : Cx} {r : Int} {M9 : Mm} (G0 : Gx LR w X "WhoRulesModel" b_m_missing 4 0 0 (some .int)) (n : Nat) (k5 : Int → Int → Int → Mm → Rr) (hk5 : ∀ (x1 x2 x3 : Int) (hx1 : inR x1) (hx2 : inR x2) (hx3 : inR x3) (M : Mm), k5 x1 x2 x3 M = some (r, M9) → VJ LR w X 4 1 r M9 M [(0, .ref (wa w 0)), (1, .int (i32 x1)), (2, .int (i32 x2)), (3, .int (i32 x3))] [] 5) (x1 x3 s0 : Int) (hx1 : inR x1) (hx3 : inR x3) (hs0 : inR s0) (M : Mm) (hF : f_m_missing_42 n k5 x1 x3 s0 M = some (r, M9)) : VJ LR w X 4 1 r M9 M [(0, .ref (wa w 0)), (1, .int (i32 x1)), (3, .int (i32 x3))] [.int (i32 s0)] 42 := by
  have G := G0.1
  unfold f_m_missing_42 at hF
  refine vj_iconst G (v := 0) d_m_missing_42 rfl ?_
  exact wk_m_missing_43 G0 n k5 hk5 x1 x3 s0 0 hx1 hx3 hs0 ic_0 _ hF
set_option maxHeartbeats 4000000 in
set_option maxRecDepth 100000 in
theorem wk_m_missing_5 {w : Wd} {X : Cx} {r : Int} {M9 : Mm} (G0 : Gx LR w X "WhoRulesModel" b_m_missing 4 0 0 (some .int)) (n : Nat) (k5 : Int → Int → Int → Mm → Rr) (hk5 : ∀ (x1 x2 x3 : Int) (hx1 : inR x1) (hx2 : inR x2) (hx3 : inR x3) (M : Mm), k5 x1 x2 x3 M = some (r, M9) → VJ LR w X 4 1 r M9 M [(0, .ref (wa w 0)), (1, .int (i32 x1)), (2, .int (i32 x2)), (3, .int (i32 x3))] [] 5) (x1 x2 x3 : Int) (hx1 : inR x1) (hx2 : inR x2) (hx3 : inR x3) (M : Mm) (hF : f_m_missing_5 n k5 x1 x2 x3 M = some (r, M9)) : VJ LR w X 4 1 r M9 M [(0, .ref (wa w 0)), (1, .int (i32 x1)), (2, .int (i32 x2)), (3, .int (i32 x3))] [] 5 := by
  have G := G0.1
  unfold f_m_missing_5 at hF
  refine vj_iload_n G (p9 := 3) d_m_missing_5 rfl rfl ?_
  refine vj_aload_n G (p9 := 0) d_m_missing_6 rfl rfl ?_
  refine gfR_m_19 G d_m_missing_7 ?_
  refine vj_mr (fun hM1 => ?_)
  refine vj_icmp_ge G (tgt := 51) d_m_missing_10 (by decide) hx3 (mr_o hM1 lkR_0 flR_0_3) (fun c2 => ?_) (fun c2 => ?_)
  · rw [if_pos c2] at hF
    refine vj_iload_n G (p9 := 2) d_m_missing_51 rfl rfl ?_
    cases hF
    exact vj_iret G0 hx2 d_m_missing_52
  · rw [if_neg c2] at hF
    refine vj_iload_n G (p9 := 2) d_m_missing_13 rfl rfl ?_
    refine vj_aload_n G (p9 := 0) d_m_missing_14 rfl rfl ?_
    refine gfR_m_32 G d_m_missing_15 ?_
    refine vj_iload_n G (p9 := 3) d_m_missing_18 rfl rfl ?_
    obtain ⟨c3, hF⟩ := ck_some hF
    refine vj_iald G (x := x3) lkR_3 (by decide) c3 d_m_missing_19 ?_
    refine vj_mr (fun hM4 => ?_)
    refine vj_iload_n G (p9 := 1) d_m_missing_20 rfl rfl ?_
    refine vj_icmp_ne G (tgt := 42) d_m_missing_21 (by decide) (mr_a hM4 lkR_3) hx1 (fun c5 => ?_) (fun c5 => ?_)
    · rw [if_pos c5] at hF
      refine vj_sub [0, 1, 3] rfl ?_
      exact wk_m_missing_42 G0 n k5 hk5 x1 x3 x2 hx1 hx3 hx2 _ hF
    · rw [if_neg c5] at hF
      refine vj_aload_n G (p9 := 0) d_m_missing_24 rfl rfl ?_
      refine gfR_m_130 G d_m_missing_25 ?_
      refine vj_iload_n G (p9 := 3) d_m_missing_28 rfl rfl ?_
      obtain ⟨c6, hF⟩ := ck_some hF
      refine vj_iald G (x := x3) lkR_22 (by decide) c6 d_m_missing_29 ?_
      refine vj_mr (fun hM7 => ?_)
      refine vj_if_lt G (tgt := 42) d_m_missing_30 (by decide) (mr_a hM7 lkR_22) (fun c8 => ?_) (fun c8 => ?_)
      · rw [if_pos c8] at hF
        refine vj_sub [0, 1, 3] rfl ?_
        exact wk_m_missing_42 G0 n k5 hk5 x1 x3 x2 hx1 hx3 hx2 _ hF
      · rw [if_neg c8] at hF
        refine vj_aload_n G (p9 := 0) d_m_missing_33 rfl rfl ?_
        refine gfR_m_38 G d_m_missing_34 ?_
        refine vj_iload_n G (p9 := 3) d_m_missing_37 rfl rfl ?_
        obtain ⟨c9, hF⟩ := ck_some hF
        refine vj_iald G (x := x3) lkR_5 (by decide) c9 d_m_missing_38 ?_
        refine vj_mr (fun hM10 => ?_)
        refine vj_goto G (tgt := 43) d_m_missing_39 (by decide) ?_
        refine vj_sub [0, 1, 3] rfl ?_
        exact wk_m_missing_43 G0 n k5 hk5 x1 x3 x2 (M 5 x3.toNat) hx1 hx3 hx2 (mr_a hM10 lkR_5) _ hF
set_option maxHeartbeats 4000000 in
set_option maxRecDepth 100000 in
theorem wl_m_missing_5 {w : Wd} {X : Cx} {r : Int} {M9 : Mm} (G0 : Gx LR w X "WhoRulesModel" b_m_missing 4 0 0 (some .int)) (n : Nat) : ∀ (f : Nat) (x1 x2 x3 : Int) (hx1 : inR x1) (hx2 : inR x2) (hx3 : inR x3) (M : Mm), lp_m_missing_5 n f x1 x2 x3 M = some (r, M9) → VJ LR w X 4 1 r M9 M [(0, .ref (wa w 0)), (1, .int (i32 x1)), (2, .int (i32 x2)), (3, .int (i32 x3))] [] 5 := by
  intro f
  induction f with
  | zero => intro x1 x2 x3 hx1 hx2 hx3 M hF; cases hF
  | succ f ih => intro x1 x2 x3 hx1 hx2 hx3 M hF; exact wk_m_missing_5 G0 n (lp_m_missing_5 n f) ih x1 x2 x3 hx1 hx2 hx3 M hF
set_option maxHeartbeats 4000000 in
set_option maxRecDepth 100000 in
theorem ct_m_missing {w : Wd} (hij : ij LR w) (n : Nat) (x1 : Int) (hx1 : inR x1) {M : Mm} {r : Int} {M9 : Mm} (hF : f_m_missing n x1 M = some (r, M9)) : Ct LR w y_m_missing b_m_missing 4 (some .int) 0 0 1 [.ref (wa w 0), .int (i32 x1)] M r M9 := by
  refine Ct.of hij KstR (by decide +kernel) (Nat.le_of_ble_eq_true rfl) (fun X G0 => ?_)
  have G := G0.1
  show VJ LR w X 4 1 r M9 M [(0, .ref (wa w 0)), (1, .int (i32 x1))] [] 0
  unfold f_m_missing at hF
  refine vj_bipush G (v := 12) d_m_missing_0 rfl ?_
  refine vj_istore_n G (lv2 := [(2, .int (i32 12)), (0, .ref (wa w 0)), (1, .int (i32 x1))]) d_m_missing_2 rfl (by decide) rfl ?_
  refine vj_iconst G (v := 0) d_m_missing_3 rfl ?_
  refine vj_istore_n G (lv2 := [(3, .int (i32 0)), (2, .int (i32 12)), (0, .ref (wa w 0)), (1, .int (i32 x1))]) d_m_missing_4 rfl (by decide) rfl ?_
  refine vj_sub [2, 3, 1, 0] rfl ?_
  exact wl_m_missing_5 G0 n  n x1 12 0 hx1 ic_12 ic_0 _ hF
set_option maxHeartbeats 4000000 in
set_option maxRecDepth 100000 in
theorem wk_m_findReach_190 {w : Wd} {X : Cx} {r : Int} {M9 : Mm} (G0 : Gx LR w X "WhoRulesModel" b_m_findReach 4 1 23 none) (n : Nat) (k113 : Int → Mm → Rr) (hk113 : ∀ (x1 : Int) (hx1 : inB x1) (M : Mm), k113 x1 M = some (r, M9) → VJ LR w X 4 0 r M9 M [(0, .ref (wa w 0)), (1, .int (i32 x1))] [] 113) (k121 : Int → Int → Mm → Rr) (hk121 : ∀ (x1 x2 : Int) (hx1 : inB x1) (hx2 : inR x2) (M : Mm), k121 x1 x2 M = some (r, M9) → VJ LR w X 4 0 r M9 M [(0, .ref (wa w 0)), (1, .int (i32 x1)), (2, .int (i32 x2))] [] 121) (x1 x2 : Int) (hx1 : inB x1) (hx2 : inR x2) (M : Mm) (hF : f_m_findReach_190 n k113 k121 x1 x2 M = some (r, M9)) : VJ LR w X 4 0 r M9 M [(0, .ref (wa w 0)), (1, .int (i32 x1)), (2, .int (i32 x2))] [] 190 := by
  have G := G0.1
  unfold f_m_findReach_190 at hF
  refine vj_iinc G (p9 := 2) (n := 1) (lv2 := [(2, .int (i32 (w32 (x2 + 1)))), (0, .ref (wa w 0)), (1, .int (i32 x1))]) d_m_findReach_190 rfl (by decide) rfl ?_
  refine vj_goto G (tgt := 121) d_m_findReach_193 (by decide) ?_
  refine vj_sub [1, 2, 0] rfl ?_
  exact hk121 x1 (w32 (x2 + 1)) hx1 (ir_w _) _ hF
set_option maxHeartbeats 4000000 in
set_option maxRecDepth 100000 in
theorem wk_m_findReach_121 {w : Wd} {X : Cx} {r : Int} {M9 : Mm} (G0 : Gx LR w X "WhoRulesModel" b_m_findReach 4 1 23 none) (n : Nat) (k113 : Int → Mm → Rr) (hk113 : ∀ (x1 : Int) (hx1 : inB x1) (M : Mm), k113 x1 M = some (r, M9) → VJ LR w X 4 0 r M9 M [(0, .ref (wa w 0)), (1, .int (i32 x1))] [] 113) (k121 : Int → Int → Mm → Rr) (hk121 : ∀ (x1 x2 : Int) (hx1 : inB x1) (hx2 : inR x2) (M : Mm), k121 x1 x2 M = some (r, M9) → VJ LR w X 4 0 r M9 M [(0, .ref (wa w 0)), (1, .int (i32 x1)), (2, .int (i32 x2))] [] 121) (x1 x2 : Int) (hx1 : inB x1) (hx2 : inR x2) (M : Mm) (hF : f_m_findReach_121 n k113 k121 x1 x2 M = some (r, M9)) : VJ LR w X 4 0 r M9 M [(0, .ref (wa w 0)), (1, .int (i32 x1)), (2, .int (i32 x2))] [] 121 := by
  have G := G0.1
  unfold f_m_findReach_121 at hF
  refine vj_iload_n G (p9 := 2) d_m_findReach_121 rfl rfl ?_
  refine vj_aload_n G (p9 := 0) d_m_findReach_122 rfl rfl ?_
  refine gfR_m_19 G d_m_findReach_123 ?_
  refine vj_mr (fun hM1 => ?_)
  refine vj_icmp_ge G (tgt := 196) d_m_findReach_126 (by decide) hx2 (mr_o hM1 lkR_0 flR_0_3) (fun c2 => ?_) (fun c2 => ?_)
  · rw [if_pos c2] at hF
    refine vj_goto G (tgt := 113) d_m_findReach_196 (by decide) ?_
    refine vj_sub [0, 1] rfl ?_
    exact hk113 x1 hx1 _ hF
  · rw [if_neg c2] at hF
    refine vj_aload_n G (p9 := 0) d_m_findReach_129 rfl rfl ?_
    refine gfR_m_32 G d_m_findReach_130 ?_
    refine vj_iload_n G (p9 := 2) d_m_findReach_133 rfl rfl ?_
    obtain ⟨c3, hF⟩ := ck_some hF
    refine vj_iald G (x := x2) lkR_3 (by decide) c3 d_m_findReach_134 ?_
    refine vj_mr (fun hM4 => ?_)
    refine vj_istore_n G (lv2 := [(3, .int (i32 (M 3 x2.toNat))), (0, .ref (wa w 0)), (1, .int (i32 x1)), (2, .int (i32 x2))]) d_m_findReach_135 rfl (by decide) rfl ?_
    refine vj_aload_n G (p9 := 1) d_m_findReach_136 rfl rfl ?_
    refine gfR_m_176 G d_m_findReach_137 ?_
    refine vj_iload_n G (p9 := 0) d_m_findReach_140 rfl rfl ?_
    obtain ⟨c5, hF⟩ := ck_some hF
    refine vj_iald G (x := (M 3 x2.toNat)) lkR_35 (by decide) c5 d_m_findReach_141 ?_
    refine vj_iconst G (v := 1) d_m_findReach_142 rfl ?_
    refine vj_icmp_eq G (tgt := 190) d_m_findReach_143 (by decide) (mr_a hM4 lkR_35) ic_1 (fun c6 => ?_) (fun c6 => ?_)
    · rw [if_pos c6] at hF
      refine vj_sub [1, 2, 3] rfl ?_
      exact wk_m_findReach_190 G0 n k113 hk113 k121 hk121 x1 x2 hx1 hx2 _ hF
    · rw [if_neg c6] at hF
      refine vj_aload_n G (p9 := 1) d_m_findReach_146 rfl rfl ?_
      refine gfR_m_38 G d_m_findReach_147 ?_
      refine vj_iload_n G (p9 := 3) d_m_findReach_150 rfl rfl ?_
      obtain ⟨c7, hF⟩ := ck_some hF
      refine vj_iald G (x := x2) lkR_5 (by decide) c7 d_m_findReach_151 ?_
      refine vj_mr (fun hM8 => ?_)
      refine vj_if_eq G (tgt := 190) d_m_findReach_152 (by decide) (mr_a hM8 lkR_5) (fun c9 => ?_) (fun c9 => ?_)
      · rw [if_pos c9] at hF
        refine vj_sub [1, 2, 3] rfl ?_
        exact wk_m_findReach_190 G0 n k113 hk113 k121 hk121 x1 x2 hx1 hx2 _ hF
      · rw [if_neg c9] at hF
        refine vj_aload_n G (p9 := 1) d_m_findReach_155 rfl rfl ?_
        refine gfR_m_130 G d_m_findReach_156 ?_
        refine vj_iload_n G (p9 := 3) d_m_findReach_159 rfl rfl ?_
        obtain ⟨c10, hF⟩ := ck_some hF
        refine vj_iald G (x := x2) lkR_22 (by decide) c10 d_m_findReach_160 ?_
        refine vj_mr (fun hM11 => ?_)
        refine vj_if_lt G (tgt := 190) d_m_findReach_161 (by decide) (mr_a hM11 lkR_22) (fun c12 => ?_) (fun c12 => ?_)
        · rw [if_pos c12] at hF
          refine vj_sub [1, 2, 3] rfl ?_
          exact wk_m_findReach_190 G0 n k113 hk113 k121 hk121 x1 x2 hx1 hx2 _ hF
        · rw [if_neg c12] at hF
          refine vj_aload_n G (p9 := 1) d_m_findReach_164 rfl rfl ?_
          refine gfR_m_176 G d_m_findReach_165 ?_
          refine vj_aload_n G (p9 := 1) d_m_findReach_168 rfl rfl ?_
          refine gfR_m_130 G d_m_findReach_169 ?_
          refine vj_iload_n G (p9 := 3) d_m_findReach_172 rfl rfl ?_
          obtain ⟨c13, hF⟩ := ck_some hF
          refine vj_iald G (x := x2) lkR_22 (by decide) c13 d_m_findReach_173 ?_
          refine vj_mr (fun hM14 => ?_)
          obtain ⟨c15, hF⟩ := ck_some hF
          refine vj_iald G (x := (M 22 x2.toNat)) lkR_35 (by decide) c15 d_m_findReach_174 ?_
          refine vj_if_ne G (tgt := 181) d_m_findReach_175 (by decide) (mr_a hM14 lkR_35) (fun c16 => ?_) (fun c16 => ?_)
          · rw [if_pos c16] at hF
            refine vj_aload_n G (p9 := 1) d_m_findReach_181 rfl rfl ?_
            refine gfR_m_176 G d_m_findReach_182 ?_
            refine vj_iload_n G (p9 := 0) d_m_findReach_185 rfl rfl ?_
            refine vj_iconst G (v := 1) d_m_findReach_186 rfl ?_
            obtain ⟨c17, hF⟩ := ck_some hF
            refine vj_iast G (x := (M 3 x2.toNat)) lkR_35 (by decide) (by decide) (by decide) c17 ic_1 d_m_findReach_187 ?_
            refine vj_iconst G (v := 1) d_m_findReach_188 rfl ?_
            refine vj_istore_n G (lv2 := [(1, .int (i32 1)), (3, .int (i32 (M 3 x2.toNat))), (0, .ref (wa w 0)), (2, .int (i32 x2))]) d_m_findReach_189 rfl (by decide) rfl ?_
            refine vj_sub [2, 0, 3] rfl ?_
            exact wk_m_findReach_190 G0 n k113 hk113 k121 hk121 1 x2 (Or.inr rfl) hx2 _ hF
          · rw [if_neg c16] at hF
            refine vj_goto G (tgt := 190) d_m_findReach_178 (by decide) ?_
            refine vj_sub [1, 2, 3] rfl ?_
            exact wk_m_findReach_190 G0 n k113 hk113 k121 hk121 x1 x2 hx1 hx2 _ hF
set_option maxHeartbeats 4000000 in
set_option maxRecDepth 100000 in
theorem wl_m_findReach_121 {w : Wd} {X : Cx} {r : Int} {M9 : Mm} (G0 : Gx LR w X "WhoRulesModel" b_m_findReach 4 1 23 none) (n : Nat) (k113 : Int → Mm → Rr) (hk113 : ∀ (x1 : Int) (hx1 : inB x1) (M : Mm), k113 x1 M = some (r, M9) → VJ LR w X 4 0 r M9 M [(0, .ref (wa w 0)), (1, .int (i32 x1))] [] 113) : ∀ (f : Nat) (x1 x2 : Int) (hx1 : inB x1) (hx2 : inR x2) (M : Mm), lp_m_findReach_121 n k113 f x1 x2 M = some (r, M9) → VJ LR w X 4 0 r M9 M [(0, .ref (wa w 0)), (1, .int (i32 x1)), (2, .int (i32 x2))] [] 121 := by
  intro f
  induction f with
  | zero => intro x1 x2 hx1 hx2 M hF; cases hF
  | succ f ih => intro x1 x2 hx1 hx2 M hF; exact wk_m_findReach_121 G0 n k113 hk113 (lp_m_findReach_121 n k113 f) ih x1 x2 hx1 hx2 M hF
set_option maxHeartbeats 4000000 in
set_option maxRecDepth 100000 in
theorem wk_m_findReach_113 {w : Wd} {X : Cx} {r : Int} {M9 : Mm} (G0 : Gx LR w X "WhoRulesModel" b_m_findReach 4 1 23 none) (n : Nat) (k113 : Int → Mm → Rr) (hk113 : ∀ (x1 : Int) (hx1 : inB x1) (M : Mm), k113 x1 M = some (r, M9) → VJ LR w X 4 0 r M9 M [(0, .ref (wa w 0)), (1, .int (i32 x1))] [] 113) (x1 : Int) (hx1 : inB x1) (M : Mm) (hF : f_m_findReach_113 n k113 x1 M = some (r, M9)) : VJ LR w X 4 0 r M9 M [(0, .ref (wa w 0)), (1, .int (i32 x1))] [] 113 := by
  have G := G0.1
  unfold f_m_findReach_113 at hF
  refine vj_iload_n G (p9 := 1) d_m_findReach_113 rfl rfl ?_
  refine vj_if_eq G (tgt := 199) d_m_findReach_114 (by decide) (ir_b hx1) (fun c1 => ?_) (fun c1 => ?_)
  · rw [if_pos c1] at hF
    cases hF
    exact vj_vret G0 d_m_findReach_199
  · rw [if_neg c1] at hF
    refine vj_iconst G (v := 0) d_m_findReach_117 rfl ?_
    refine vj_istore_n G (lv2 := [(1, .int (i32 0)), (0, .ref (wa w 0))]) d_m_findReach_118 rfl (by decide) rfl ?_
    refine vj_iconst G (v := 0) d_m_findReach_119 rfl ?_
    refine vj_istore_n G (lv2 := [(2, .int (i32 0)), (1, .int (i32 0)), (0, .ref (wa w 0))]) d_m_findReach_120 rfl (by decide) rfl ?_
    refine vj_sub [2, 1, 0] rfl ?_
    exact wl_m_findReach_121 G0 n k113 hk113 n 0 0 (Or.inl rfl) ic_0 _ hF
set_option maxHeartbeats 4000000 in
set_option maxRecDepth 100000 in
theorem wl_m_findReach_113 {w : Wd} {X : Cx} {r : Int} {M9 : Mm} (G0 : Gx LR w X "WhoRulesModel" b_m_findReach 4 1 23 none) (n : Nat) : ∀ (f : Nat) (x1 : Int) (hx1 : inB x1) (M : Mm), lp_m_findReach_113 n f x1 M = some (r, M9) → VJ LR w X 4 0 r M9 M [(0, .ref (wa w 0)), (1, .int (i32 x1))] [] 113 := by
  intro f
  induction f with
  | zero => intro x1 hx1 M hF; cases hF
  | succ f ih => intro x1 hx1 M hF; exact wk_m_findReach_113 G0 n (lp_m_findReach_113 n f) ih x1 hx1 M hF
set_option maxHeartbeats 4000000 in
set_option maxRecDepth 100000 in
theorem wk_m_findReach_99 {w : Wd} {X : Cx} {r : Int} {M9 : Mm} (G0 : Gx LR w X "WhoRulesModel" b_m_findReach 4 1 23 none) (n : Nat) (k2 : Int → Mm → Rr) (hk2 : ∀ (x1 : Int) (hx1 : inR x1) (M : Mm), k2 x1 M = some (r, M9) → VJ LR w X 4 0 r M9 M [(0, .ref (wa w 0)), (1, .int (i32 x1))] [] 2) (k41 : Int → Int → Mm → Rr) (hk41 : ∀ (x1 x2 : Int) (hx1 : inR x1) (hx2 : inR x2) (M : Mm), k41 x1 x2 M = some (r, M9) → VJ LR w X 4 0 r M9 M [(0, .ref (wa w 0)), (1, .int (i32 x1)), (2, .int (i32 x2))] [] 41) (x1 x2 : Int) (hx1 : inR x1) (hx2 : inR x2) (M : Mm) (hF : f_m_findReach_99 n k2 k41 x1 x2 M = some (r, M9)) : VJ LR w X 4 0 r M9 M [(0, .ref (wa w 0)), (1, .int (i32 x1)), (2, .int (i32 x2))] [] 99 := by
  have G := G0.1
  unfold f_m_findReach_99 at hF
  refine vj_iinc G (p9 := 2) (n := 1) (lv2 := [(2, .int (i32 (w32 (x2 + 1)))), (0, .ref (wa w 0)), (1, .int (i32 x1))]) d_m_findReach_99 rfl (by decide) rfl ?_
  refine vj_goto G (tgt := 41) d_m_findReach_102 (by decide) ?_
  refine vj_sub [1, 2, 0] rfl ?_
  exact hk41 x1 (w32 (x2 + 1)) hx1 (ir_w _) _ hF
set_option maxHeartbeats 4000000 in
set_option maxRecDepth 100000 in
theorem wk_m_findReach_41 {w : Wd} {X : Cx} {r : Int} {M9 : Mm} (G0 : Gx LR w X "WhoRulesModel" b_m_findReach 4 1 23 none) (n : Nat) (k2 : Int → Mm → Rr) (hk2 : ∀ (x1 : Int) (hx1 : inR x1) (M : Mm), k2 x1 M = some (r, M9) → VJ LR w X 4 0 r M9 M [(0, .ref (wa w 0)), (1, .int (i32 x1))] [] 2) (k41 : Int → Int → Mm → Rr) (hk41 : ∀ (x1 x2 : Int) (hx1 : inR x1) (hx2 : inR x2) (M : Mm), k41 x1 x2 M = some (r, M9) → VJ LR w X 4 0 r M9 M [(0, .ref (wa w 0)), (1, .int (i32 x1)), (2, .int (i32 x2))] [] 41) (x1 x2 : Int) (hx1 : inR x1) (hx2 : inR x2) (M : Mm) (hF : f_m_findReach_41 n k2 k41 x1 x2 M = some (r, M9)) : VJ LR w X 4 0 r M9 M [(0, .ref (wa w 0)), (1, .int (i32 x1)), (2, .int (i32 x2))] [] 41 := by
  have G := G0.1
  unfold f_m_findReach_41 at hF
  refine vj_iload_n G (p9 := 2) d_m_findReach_41 rfl rfl ?_
  refine vj_aload_n G (p9 := 0) d_m_findReach_42 rfl rfl ?_
  refine gfR_m_19 G d_m_findReach_43 ?_
  refine vj_mr (fun hM1 => ?_)
  refine vj_icmp_ge G (tgt := 105) d_m_findReach_46 (by decide) hx2 (mr_o hM1 lkR_0 flR_0_3) (fun c2 => ?_) (fun c2 => ?_)
  · rw [if_pos c2] at hF
    refine vj_iinc G (p9 := 1) (n := 1) (lv2 := [(1, .int (i32 (w32 (x1 + 1)))), (0, .ref (wa w 0)), (2, .int (i32 x2))]) d_m_findReach_105 rfl (by decide) rfl ?_
    refine vj_goto G (tgt := 2) d_m_findReach_108 (by decide) ?_
    refine vj_sub [1, 0] rfl ?_
    exact hk2 (w32 (x1 + 1)) (ir_w _) _ hF
  · rw [if_neg c2] at hF
    refine vj_aload_n G (p9 := 0) d_m_findReach_49 rfl rfl ?_
    refine gfR_m_32 G d_m_findReach_50 ?_
    refine vj_iload_n G (p9 := 2) d_m_findReach_53 rfl rfl ?_
    obtain ⟨c3, hF⟩ := ck_some hF
    refine vj_iald G (x := x2) lkR_3 (by decide) c3 d_m_findReach_54 ?_
    refine vj_mr (fun hM4 => ?_)
    refine vj_iload_n G (p9 := 1) d_m_findReach_55 rfl rfl ?_
    refine vj_icmp_ne G (tgt := 99) d_m_findReach_56 (by decide) (mr_a hM4 lkR_3) hx1 (fun c5 => ?_) (fun c5 => ?_)
    · rw [if_pos c5] at hF
      exact wk_m_findReach_99 G0 n k2 hk2 k41 hk41 x1 x2 hx1 hx2 _ hF
    · rw [if_neg c5] at hF
      refine vj_aload_n G (p9 := 0) d_m_findReach_59 rfl rfl ?_
      refine gfR_m_38 G d_m_findReach_60 ?_
      refine vj_iload_n G (p9 := 2) d_m_findReach_63 rfl rfl ?_
      obtain ⟨c6, hF⟩ := ck_some hF
      refine vj_iald G (x := x2) lkR_5 (by decide) c6 d_m_findReach_64 ?_
      refine vj_mr (fun hM7 => ?_)
      refine vj_if_le G (tgt := 99) d_m_findReach_65 (by decide) (mr_a hM7 lkR_5) (fun c8 => ?_) (fun c8 => ?_)
      · rw [if_pos c8] at hF
        exact wk_m_findReach_99 G0 n k2 hk2 k41 hk41 x1 x2 hx1 hx2 _ hF
      · rw [if_neg c8] at hF
        refine vj_aload_n G (p9 := 0) d_m_findReach_68 rfl rfl ?_
        refine gfR_m_130 G d_m_findReach_69 ?_
        refine vj_iload_n G (p9 := 2) d_m_findReach_72 rfl rfl ?_
        obtain ⟨c9, hF⟩ := ck_some hF
        refine vj_iald G (x := x2) lkR_22 (by decide) c9 d_m_findReach_73 ?_
        refine vj_mr (fun hM10 => ?_)
        refine vj_if_lt G (tgt := 99) d_m_findReach_74 (by decide) (mr_a hM10 lkR_22) (fun c11 => ?_) (fun c11 => ?_)
        · rw [if_pos c11] at hF
          exact wk_m_findReach_99 G0 n k2 hk2 k41 hk41 x1 x2 hx1 hx2 _ hF
        · rw [if_neg c11] at hF
          refine vj_aload_n G (p9 := 0) d_m_findReach_77 rfl rfl ?_
          refine gfR_m_25 G d_m_findReach_78 ?_
          refine vj_aload_n G (p9 := 0) d_m_findReach_81 rfl rfl ?_
          refine gfR_m_130 G d_m_findReach_82 ?_
          refine vj_iload_n G (p9 := 2) d_m_findReach_85 rfl rfl ?_
          obtain ⟨c12, hF⟩ := ck_some hF
          refine vj_iald G (x := x2) lkR_22 (by decide) c12 d_m_findReach_86 ?_
          refine vj_mr (fun hM13 => ?_)
          obtain ⟨c14, hF⟩ := ck_some hF
          refine vj_iald G (x := (M 22 x2.toNat)) lkR_1 (by decide) c14 d_m_findReach_87 ?_
          refine vj_iconst G (v := 1) d_m_findReach_88 rfl ?_
          refine vj_icmp_eq G (tgt := 99) d_m_findReach_89 (by decide) (mr_a hM13 lkR_1) ic_1 (fun c15 => ?_) (fun c15 => ?_)
          · rw [if_pos c15] at hF
            exact wk_m_findReach_99 G0 n k2 hk2 k41 hk41 x1 x2 hx1 hx2 _ hF
          · rw [if_neg c15] at hF
            refine vj_aload_n G (p9 := 0) d_m_findReach_92 rfl rfl ?_
            refine gfR_m_176 G d_m_findReach_93 ?_
            refine vj_iload_n G (p9 := 1) d_m_findReach_96 rfl rfl ?_
            refine vj_iconst G (v := 1) d_m_findReach_97 rfl ?_
            obtain ⟨c16, hF⟩ := ck_some hF
            refine vj_iast G (x := x1) lkR_35 (by decide) (by decide) (by decide) c16 ic_1 d_m_findReach_98 ?_
            exact wk_m_findReach_99 G0 n k2 hk2 k41 hk41 x1 x2 hx1 hx2 _ hF
set_option maxHeartbeats 4000000 in
set_option maxRecDepth 100000 in
theorem wl_m_findReach_41 {w : Wd} {X : Cx} {r : Int} {M9 : Mm} (G0 : Gx LR w X "WhoRulesModel" b_m_findReach 4 1 23 none) (n : Nat) (k2 : Int → Mm → Rr) (hk2 : ∀ (x1 : Int) (hx1 : inR x1) (M : Mm), k2 x1 M = some (r, M9) → VJ LR w X 4 0 r M9 M [(0, .ref (wa w 0)), (1, .int (i32 x1))] [] 2) : ∀ (f : Nat) (x1 x2 : Int) (hx1 : inR x1) (hx2 : inR x2) (M : Mm), lp_m_findReach_41 n k2 f x1 x2 M = some (r, M9) → VJ LR w X 4 0 r M9 M [(0, .ref (wa w 0)), (1, .int (i32 x1)), (2, .int (i32 x2))] [] 41 := by
  intro f
  induction f with
  | zero => intro x1 x2 hx1 hx2 M hF; cases hF
  | succ f ih => intro x1 x2 hx1 hx2 M hF; exact wk_m_findReach_41 G0 n k2 hk2 (lp_m_findReach_41 n k2 f) ih x1 x2 hx1 hx2 M hF
set_option maxHeartbeats 4000000 in
set_option maxRecDepth 100000 in
theorem wk_m_findReach_38 {w : Wd} {X : Cx} {r : Int} {M9 : Mm} (G0 : Gx LR w X "WhoRulesModel" b_m_findReach 4 1 23 none) (n : Nat) (k2 : Int → Mm → Rr) (hk2 : ∀ (x1 : Int) (hx1 : inR x1) (M : Mm), k2 x1 M = some (r, M9) → VJ LR w X 4 0 r M9 M [(0, .ref (wa w 0)), (1, .int (i32 x1))] [] 2) (x1 s1 s2 : Int) (hx1 : inR x1) (hs1 : inR s1) (hs2 : inB s2) (M : Mm) (hF : f_m_findReach_38 n k2 x1 s1 s2 M = some (r, M9)) : VJ LR w X 4 0 r M9 M [(0, .ref (wa w 0)), (1, .int (i32 x1))] [.int (i32 s2), .int (i32 s1), .ref (wa w 35)] 38 := by
  have G := G0.1
  unfold f_m_findReach_38 at hF
  obtain ⟨c1, hF⟩ := ck_some hF
  refine vj_iast G (x := s1) lkR_35 (by decide) (by decide) (by decide) c1 (ir_b hs2) d_m_findReach_38 ?_
  refine vj_iconst G (v := 0) d_m_findReach_39 rfl ?_
  refine vj_istore_n G (lv2 := [(2, .int (i32 0)), (0, .ref (wa w 0)), (1, .int (i32 x1))]) d_m_findReach_40 rfl (by decide) rfl ?_
  refine vj_sub [1, 2, 0] rfl ?_
  exact wl_m_findReach_41 G0 n k2 hk2 n x1 0 hx1 ic_0 _ hF
set_option maxHeartbeats 4000000 in
set_option maxRecDepth 100000 in
theorem wk_m_findReach_37 {w : Wd} {X : Cx} {r : Int} {M9 : Mm} (G0 : Gx LR w X "WhoRulesModel" b_m_findReach 4 1 23 none) (n : Nat) (k2 : Int → Mm → Rr) (hk2 : ∀ (x1 : Int) (hx1 : inR x1) (M : Mm), k2 x1 M = some (r, M9) → VJ LR w X 4 0 r M9 M [(0, .ref (wa w 0)), (1, .int (i32 x1))] [] 2) (x1 s1 : Int) (hx1 : inR x1) (hs1 : inR s1) (M : Mm) (hF : f_m_findReach_37 n k2 x1 s1 M = some (r, M9)) : VJ LR w X 4 0 r M9 M [(0, .ref (wa w 0)), (1, .int (i32 x1))] [.int (i32 s1), .ref (wa w 35)] 37 := by
  have G := G0.1
  unfold f_m_findReach_37 at hF
  refine vj_iconst G (v := 0) d_m_findReach_37 rfl ?_
  exact wk_m_findReach_38 G0 n k2 hk2 x1 s1 0 hx1 hs1 (Or.inl rfl) _ hF
set_option maxHeartbeats 4000000 in
set_option maxRecDepth 100000 in
theorem wk_m_findReach_2 {w : Wd} {X : Cx} {r : Int} {M9 : Mm} (G0 : Gx LR w X "WhoRulesModel" b_m_findReach 4 1 23 none) (n : Nat) (k2 : Int → Mm → Rr) (hk2 : ∀ (x1 : Int) (hx1 : inR x1) (M : Mm), k2 x1 M = some (r, M9) → VJ LR w X 4 0 r M9 M [(0, .ref (wa w 0)), (1, .int (i32 x1))] [] 2) (x1 : Int) (hx1 : inR x1) (M : Mm) (hF : f_m_findReach_2 n k2 x1 M = some (r, M9)) : VJ LR w X 4 0 r M9 M [(0, .ref (wa w 0)), (1, .int (i32 x1))] [] 2 := by
  have G := G0.1
  unfold f_m_findReach_2 at hF
  refine vj_iload_n G (p9 := 1) d_m_findReach_2 rfl rfl ?_
  refine vj_aload_n G (p9 := 0) d_m_findReach_3 rfl rfl ?_
  refine gfR_m_13 G d_m_findReach_4 ?_
  refine vj_mr (fun hM1 => ?_)
  refine vj_icmp_ge G (tgt := 111) d_m_findReach_7 (by decide) hx1 (mr_o hM1 lkR_0 flR_0_1) (fun c2 => ?_) (fun c2 => ?_)
  · rw [if_pos c2] at hF
    refine vj_iconst G (v := 1) d_m_findReach_111 rfl ?_
    refine vj_istore_n G (lv2 := [(1, .int (i32 1)), (0, .ref (wa w 0))]) d_m_findReach_112 rfl (by decide) rfl ?_
    refine vj_sub [1, 0] rfl ?_
    exact wl_m_findReach_113 G0 n  n 1 (Or.inr rfl) _ hF
  · rw [if_neg c2] at hF
    refine vj_aload_n G (p9 := 0) d_m_findReach_10 rfl rfl ?_
    refine gfR_m_176 G d_m_findReach_11 ?_
    refine vj_iload_n G (p9 := 1) d_m_findReach_14 rfl rfl ?_
    refine vj_aload_n G (p9 := 0) d_m_findReach_15 rfl rfl ?_
    refine gfR_m_25 G d_m_findReach_16 ?_
    refine vj_iload_n G (p9 := 1) d_m_findReach_19 rfl rfl ?_
    obtain ⟨c3, hF⟩ := ck_some hF
    refine vj_iald G (x := x1) lkR_1 (by decide) c3 d_m_findReach_20 ?_
    refine vj_mr (fun hM4 => ?_)
    refine vj_iconst G (v := 1) d_m_findReach_21 rfl ?_
    refine vj_icmp_ne G (tgt := 37) d_m_findReach_22 (by decide) (mr_a hM4 lkR_1) ic_1 (fun c5 => ?_) (fun c5 => ?_)
    · rw [if_pos c5] at hF
      exact wk_m_findReach_37 G0 n k2 hk2 x1 x1 hx1 hx1 _ hF
    · rw [if_neg c5] at hF
      refine vj_aload_n G (p9 := 0) d_m_findReach_25 rfl rfl ?_
      refine vj_iload_n G (p9 := 1) d_m_findReach_26 rfl rfl ?_
      obtain ⟨r6, M6, e6, hF⟩ := bnd_some hF
      refine vj_callV1 G (ct_m_missing (gx_ij G) n x1 hx1 e6) lkR_0 clR_0 rfl q_1753 cq_m_missing rfl (by decide) (by decide) (Nat.le_of_ble_eq_true rfl) d_m_findReach_27 rfl (fun hr6 => ?_)
      refine vj_if_le G (tgt := 37) d_m_findReach_30 (by decide) hr6 (fun c7 => ?_) (fun c7 => ?_)
      · rw [if_pos c7] at hF
        exact wk_m_findReach_37 G0 n k2 hk2 x1 x1 hx1 hx1 _ hF
      · rw [if_neg c7] at hF
        refine vj_iconst G (v := 1) d_m_findReach_33 rfl ?_
        refine vj_goto G (tgt := 38) d_m_findReach_34 (by decide) ?_
        exact wk_m_findReach_38 G0 n k2 hk2 x1 x1 1 hx1 hx1 (Or.inr rfl) _ hF
set_option maxHeartbeats 4000000 in
set_option maxRecDepth 100000 in
theorem wl_m_findReach_2 {w : Wd} {X : Cx} {r : Int} {M9 : Mm} (G0 : Gx LR w X "WhoRulesModel" b_m_findReach 4 1 23 none) (n : Nat) : ∀ (f : Nat) (x1 : Int) (hx1 : inR x1) (M : Mm), lp_m_findReach_2 n f x1 M = some (r, M9) → VJ LR w X 4 0 r M9 M [(0, .ref (wa w 0)), (1, .int (i32 x1))] [] 2 := by
  intro f
  induction f with
  | zero => intro x1 hx1 M hF; cases hF
  | succ f ih => intro x1 hx1 M hF; exact wk_m_findReach_2 G0 n (lp_m_findReach_2 n f) ih x1 hx1 M hF
set_option maxHeartbeats 4000000 in
set_option maxRecDepth 100000 in
theorem ct_m_findReach {w : Wd} (hij : ij LR w) (n : Nat) {M : Mm} {r : Int} {M9 : Mm} (hF : f_m_findReach n  M = some (r, M9)) : Ct LR w y_m_findReach b_m_findReach 4 none 1 23 0 [.ref (wa w 0)] M r M9 := by
  refine Ct.of hij KstR (by decide +kernel) (Nat.le_of_ble_eq_true rfl) (fun X G0 => ?_)
  have G := G0.1
  show VJ LR w X 4 0 r M9 M [(0, .ref (wa w 0))] [] 0
  unfold f_m_findReach at hF
  refine vj_iconst G (v := 0) d_m_findReach_0 rfl ?_
  refine vj_istore_n G (lv2 := [(1, .int (i32 0)), (0, .ref (wa w 0))]) d_m_findReach_1 rfl (by decide) rfl ?_
  refine vj_sub [1, 0] rfl ?_
  exact wl_m_findReach_2 G0 n  n 0 ic_0 _ hF
set_option maxHeartbeats 4000000 in
set_option maxRecDepth 100000 in
theorem wk_m_divisor_28 {w : Wd} {X : Cx} {r : Int} {M9 : Mm} (G0 : Gx LR w X "WhoRulesModel" b_m_divisor 11 0 0 (some .long)) (n : Nat) (k28 : Int → Int → Mm → Rr) (hk28 : ∀ (x5 x7 : Int) (hx5 : in64 x5) (hx7 : in64 x7) (M : Mm), k28 x5 x7 M = some (r, M9) → VJ LR w X 11 2 r M9 M [(5, .long (i64 x5)), (7, .long (i64 x7))] [] 28) (x5 x7 : Int) (hx5 : in64 x5) (hx7 : in64 x7) (M : Mm) (hF : f_m_divisor_28 n k28 x5 x7 M = some (r, M9)) : VJ LR w X 11 2 r M9 M [(5, .long (i64 x5)), (7, .long (i64 x7))] [] 28 := by
  have G := G0.1
  unfold f_m_divisor_28 at hF
  refine vj_lload G (p9 := 1) d_m_divisor_28 rfl ?_
  refine vj_lconst G (v := 0) d_m_divisor_30 rfl ?_
  refine vj_lcmp_eq G (tgt := 53) d_m_divisor_31 d_m_divisor_32 (by decide) hx7 (lr_i ic_0) (fun c1 => ?_) (fun c1 => ?_)
  · rw [if_pos c1] at hF
    refine vj_lload G (p9 := 0) d_m_divisor_53 rfl ?_
    cases hF
    exact vj_lret G0 hx5 d_m_divisor_55
  · rw [if_neg c1] at hF
    refine vj_lload G (p9 := 0) d_m_divisor_35 rfl ?_
    refine vj_lload G (p9 := 1) d_m_divisor_37 rfl ?_
    obtain ⟨c2, hF⟩ := ck_some hF
    refine vj_lrem G d_m_divisor_39 hx7 c2 ?_
    refine vj_lstore G (lv2 := [(9, .long (i64 (lrm x5 x7))), (5, .long (i64 x5)), (7, .long (i64 x7))]) d_m_divisor_40 (by decide) rfl ?_
    refine vj_lload G (p9 := 2) d_m_divisor_42 rfl ?_
    refine vj_lstore G (lv2 := [(5, .long (i64 x7)), (9, .long (i64 (lrm x5 x7))), (7, .long (i64 x7))]) d_m_divisor_44 (by decide) rfl ?_
    refine vj_lload G (p9 := 1) d_m_divisor_46 rfl ?_
    refine vj_lstore G (lv2 := [(7, .long (i64 (lrm x5 x7))), (5, .long (i64 x7)), (9, .long (i64 (lrm x5 x7)))]) d_m_divisor_48 (by decide) rfl ?_
    refine vj_goto G (tgt := 28) d_m_divisor_50 (by decide) ?_
    refine vj_sub [1, 0] rfl ?_
    exact hk28 x7 (lrm x5 x7) hx7 (lr_rm _ _) _ hF
set_option maxHeartbeats 4000000 in
set_option maxRecDepth 100000 in
theorem wl_m_divisor_28 {w : Wd} {X : Cx} {r : Int} {M9 : Mm} (G0 : Gx LR w X "WhoRulesModel" b_m_divisor 11 0 0 (some .long)) (n : Nat) : ∀ (f : Nat) (x5 x7 : Int) (hx5 : in64 x5) (hx7 : in64 x7) (M : Mm), lp_m_divisor_28 n f x5 x7 M = some (r, M9) → VJ LR w X 11 2 r M9 M [(5, .long (i64 x5)), (7, .long (i64 x7))] [] 28 := by
  intro f
  induction f with
  | zero => intro x5 x7 hx5 hx7 M hF; cases hF
  | succ f ih => intro x5 x7 hx5 hx7 M hF; exact wk_m_divisor_28 G0 n (lp_m_divisor_28 n f) ih x5 x7 hx5 hx7 M hF
set_option maxHeartbeats 4000000 in
set_option maxRecDepth 100000 in
theorem wk_m_divisor_26 {w : Wd} {X : Cx} {r : Int} {M9 : Mm} (G0 : Gx LR w X "WhoRulesModel" b_m_divisor 11 0 0 (some .long)) (n : Nat) (x5 s0 : Int) (hx5 : in64 x5) (hs0 : in64 s0) (M : Mm) (hF : f_m_divisor_26 n x5 s0 M = some (r, M9)) : VJ LR w X 11 2 r M9 M [(5, .long (i64 x5))] [.long (i64 s0)] 26 := by
  have G := G0.1
  unfold f_m_divisor_26 at hF
  refine vj_lstore G (lv2 := [(7, .long (i64 s0)), (5, .long (i64 x5))]) d_m_divisor_26 (by decide) rfl ?_
  refine vj_sub [1, 0] rfl ?_
  exact wl_m_divisor_28 G0 n  n x5 s0 hx5 hs0 _ hF
set_option maxHeartbeats 4000000 in
set_option maxRecDepth 100000 in
theorem wk_m_divisor_12 {w : Wd} {X : Cx} {r : Int} {M9 : Mm} (G0 : Gx LR w X "WhoRulesModel" b_m_divisor 11 0 0 (some .long)) (n : Nat) (x3 s0 : Int) (hx3 : in64 x3) (hs0 : in64 s0) (M : Mm) (hF : f_m_divisor_12 n x3 s0 M = some (r, M9)) : VJ LR w X 11 2 r M9 M [(3, .long (i64 x3))] [.long (i64 s0)] 12 := by
  have G := G0.1
  unfold f_m_divisor_12 at hF
  refine vj_lstore G (lv2 := [(5, .long (i64 s0)), (3, .long (i64 x3))]) d_m_divisor_12 (by decide) rfl ?_
  refine vj_lload_n G (p9 := 1) d_m_divisor_14 rfl rfl ?_
  refine vj_lconst G (v := 0) d_m_divisor_15 rfl ?_
  refine vj_lcmp_ge G (tgt := 25) d_m_divisor_16 d_m_divisor_17 (by decide) hx3 (lr_i ic_0) (fun c1 => ?_) (fun c1 => ?_)
  · rw [if_pos c1] at hF
    refine vj_lload_n G (p9 := 1) d_m_divisor_25 rfl rfl ?_
    refine vj_sub [0] rfl ?_
    exact wk_m_divisor_26 G0 n  s0 x3 hs0 hx3 _ hF
  · rw [if_neg c1] at hF
    refine vj_lload_n G (p9 := 1) d_m_divisor_20 rfl rfl ?_
    refine vj_lneg G d_m_divisor_21 ?_
    refine vj_goto G (tgt := 26) d_m_divisor_22 (by decide) ?_
    refine vj_sub [0] rfl ?_
    exact wk_m_divisor_26 G0 n  s0 (w64 (-x3)) hs0 (lr_w _) _ hF
set_option maxHeartbeats 4000000 in
set_option maxRecDepth 100000 in
theorem ct_m_divisor {w : Wd} (hij : ij LR w) (n : Nat) (x1 x3 : Int) (hx1 : in64 x1) (hx3 : in64 x3) {M : Mm} {r : Int} {M9 : Mm} (hF : f_m_divisor n x1 x3 M = some (r, M9)) : Ct LR w y_m_divisor b_m_divisor 11 (some .long) 0 0 2 [.ref (wa w 0), .long (i64 x1), .long (i64 x3)] M r M9 := by
  refine Ct.of hij KstR (by decide +kernel) (Nat.le_of_ble_eq_true rfl) (fun X G0 => ?_)
  have G := G0.1
  show VJ LR w X 11 2 r M9 M [(0, .ref (wa w 0)), (1, .long (i64 x1)), (3, .long (i64 x3))] [] 0
  unfold f_m_divisor at hF
  refine vj_lload_n G (p9 := 1) d_m_divisor_0 rfl rfl ?_
  refine vj_lconst G (v := 0) d_m_divisor_1 rfl ?_
  refine vj_lcmp_ge G (tgt := 11) d_m_divisor_2 d_m_divisor_3 (by decide) hx1 (lr_i ic_0) (fun c1 => ?_) (fun c1 => ?_)
  · rw [if_pos c1] at hF
    refine vj_lload_n G (p9 := 1) d_m_divisor_11 rfl rfl ?_
    refine vj_sub [2] rfl ?_
    exact wk_m_divisor_12 G0 n  x3 x1 hx3 hx1 _ hF
  · rw [if_neg c1] at hF
    refine vj_lload_n G (p9 := 1) d_m_divisor_6 rfl rfl ?_
    refine vj_lneg G d_m_divisor_7 ?_
    refine vj_goto G (tgt := 12) d_m_divisor_8 (by decide) ?_
    refine vj_sub [2] rfl ?_
    exact wk_m_divisor_12 G0 n  x3 (w64 (-x1)) hx3 (lr_w _) _ hF
set_option maxHeartbeats 4000000 in
set_option maxRecDepth 100000 in
theorem wk_m_tidy_41 {w : Wd} {X : Cx} {r : Int} {M9 : Mm} (G0 : Gx LR w X "WhoRulesModel" b_m_tidy 5 1 30 none) (n : Nat) (k41 : Int → Int → Int → Mm → Rr) (hk41 : ∀ (x1 x2 x4 : Int) (hx1 : inR x1) (hx2 : in64 x2) (hx4 : inR x4) (M : Mm), k41 x1 x2 x4 M = some (r, M9) → VJ LR w X 5 0 r M9 M [(0, .ref (wa w 0)), (1, .int (i32 x1)), (2, .long (i64 x2)), (4, .int (i32 x4))] [] 41) (x1 x2 x4 : Int) (hx1 : inR x1) (hx2 : in64 x2) (hx4 : inR x4) (M : Mm) (hF : f_m_tidy_41 n k41 x1 x2 x4 M = some (r, M9)) : VJ LR w X 5 0 r M9 M [(0, .ref (wa w 0)), (1, .int (i32 x1)), (2, .long (i64 x2)), (4, .int (i32 x4))] [] 41 := by
  have G := G0.1
  unfold f_m_tidy_41 at hF
  refine vj_iload G (p9 := 3) d_m_tidy_41 rfl ?_
  refine vj_aload_n G (p9 := 0) d_m_tidy_43 rfl rfl ?_
  refine gfR_m_179 G d_m_tidy_44 ?_
  refine vj_mr (fun hM1 => ?_)
  refine vj_icmp_gt G (tgt := 78) d_m_tidy_47 (by decide) hx4 (mr_o hM1 lkR_0 flR_0_55) (fun c2 => ?_) (fun c2 => ?_)
  · rw [if_pos c2] at hF
    cases hF
    exact vj_vret G0 d_m_tidy_78
  · rw [if_neg c2] at hF
    refine vj_lload_n G (p9 := 2) d_m_tidy_50 rfl rfl ?_
    refine vj_lconst G (v := 1) d_m_tidy_51 rfl ?_
    refine vj_lcmp_le G (tgt := 78) d_m_tidy_52 d_m_tidy_53 (by decide) hx2 (lr_i ic_1) (fun c3 => ?_) (fun c3 => ?_)
    · rw [if_pos c3] at hF
      cases hF
      exact vj_vret G0 d_m_tidy_78
    · rw [if_neg c3] at hF
      refine vj_aload_n G (p9 := 0) d_m_tidy_56 rfl rfl ?_
      refine gfR_m_169 G d_m_tidy_57 ?_
      refine vj_bipush G (v := 8) d_m_tidy_60 rfl ?_
      refine vj_iload_n G (p9 := 1) d_m_tidy_62 rfl rfl ?_
      refine vj_imul G d_m_tidy_63 ?_
      refine vj_iload G (p9 := 3) d_m_tidy_64 rfl ?_
      refine vj_iadd G d_m_tidy_66 ?_
      refine vj_dup2_11 G d_m_tidy_67 rfl rfl ?_
      obtain ⟨c4, hF⟩ := ck_some hF
      refine vj_lald G (x := w32 ((w32 (8 * x1)) + x4)) lkR_33 (by decide) c4 d_m_tidy_68 ?_
      refine vj_mr (fun hM5 => ?_)
      refine vj_lload_n G (p9 := 2) d_m_tidy_69 rfl rfl ?_
      obtain ⟨c6, hF⟩ := ck_some hF
      refine vj_ldiv G d_m_tidy_70 hx2 c6 ?_
      obtain ⟨c7, hF⟩ := ck_some hF
      refine vj_last G (x := w32 ((w32 (8 * x1)) + x4)) lkR_33 (by decide) (by decide) (by decide) c7 (lr_dv _ _) d_m_tidy_71 ?_
      refine vj_iinc G (p9 := 3) (n := 1) (lv2 := [(4, .int (i32 (w32 (x4 + 1)))), (0, .ref (wa w 0)), (1, .int (i32 x1)), (2, .long (i64 x2))]) d_m_tidy_72 rfl (by decide) rfl ?_
      refine vj_goto G (tgt := 41) d_m_tidy_75 (by decide) ?_
      refine vj_sub [1, 2, 3, 0] rfl ?_
      exact hk41 x1 x2 (w32 (x4 + 1)) hx1 hx2 (ir_w _) _ hF
set_option maxHeartbeats 4000000 in
set_option maxRecDepth 100000 in
theorem wl_m_tidy_41 {w : Wd} {X : Cx} {r : Int} {M9 : Mm} (G0 : Gx LR w X "WhoRulesModel" b_m_tidy 5 1 30 none) (n : Nat) : ∀ (f : Nat) (x1 x2 x4 : Int) (hx1 : inR x1) (hx2 : in64 x2) (hx4 : inR x4) (M : Mm), lp_m_tidy_41 n f x1 x2 x4 M = some (r, M9) → VJ LR w X 5 0 r M9 M [(0, .ref (wa w 0)), (1, .int (i32 x1)), (2, .long (i64 x2)), (4, .int (i32 x4))] [] 41 := by
  intro f
  induction f with
  | zero => intro x1 x2 x4 hx1 hx2 hx4 M hF; cases hF
  | succ f ih => intro x1 x2 x4 hx1 hx2 hx4 M hF; exact wk_m_tidy_41 G0 n (lp_m_tidy_41 n f) ih x1 x2 x4 hx1 hx2 hx4 M hF
set_option maxHeartbeats 4000000 in
set_option maxRecDepth 100000 in
theorem wk_m_tidy_5 {w : Wd} {X : Cx} {r : Int} {M9 : Mm} (G0 : Gx LR w X "WhoRulesModel" b_m_tidy 5 1 30 none) (n : Nat) (k5 : Int → Int → Int → Mm → Rr) (hk5 : ∀ (x1 x2 x4 : Int) (hx1 : inR x1) (hx2 : in64 x2) (hx4 : inR x4) (M : Mm), k5 x1 x2 x4 M = some (r, M9) → VJ LR w X 5 0 r M9 M [(0, .ref (wa w 0)), (1, .int (i32 x1)), (2, .long (i64 x2)), (4, .int (i32 x4))] [] 5) (x1 x2 x4 : Int) (hx1 : inR x1) (hx2 : in64 x2) (hx4 : inR x4) (M : Mm) (hF : f_m_tidy_5 n k5 x1 x2 x4 M = some (r, M9)) : VJ LR w X 5 0 r M9 M [(0, .ref (wa w 0)), (1, .int (i32 x1)), (2, .long (i64 x2)), (4, .int (i32 x4))] [] 5 := by
  have G := G0.1
  unfold f_m_tidy_5 at hF
  refine vj_iload G (p9 := 3) d_m_tidy_5 rfl ?_
  refine vj_aload_n G (p9 := 0) d_m_tidy_7 rfl rfl ?_
  refine gfR_m_179 G d_m_tidy_8 ?_
  refine vj_mr (fun hM1 => ?_)
  refine vj_icmp_gt G (tgt := 38) d_m_tidy_11 (by decide) hx4 (mr_o hM1 lkR_0 flR_0_55) (fun c2 => ?_) (fun c2 => ?_)
  · rw [if_pos c2] at hF
    refine vj_iconst G (v := 0) d_m_tidy_38 rfl ?_
    refine vj_istore G (lv2 := [(4, .int (i32 0)), (0, .ref (wa w 0)), (1, .int (i32 x1)), (2, .long (i64 x2))]) d_m_tidy_39 (by decide) rfl ?_
    refine vj_sub [1, 2, 3, 0] rfl ?_
    exact wl_m_tidy_41 G0 n  n x1 x2 0 hx1 hx2 ic_0 _ hF
  · rw [if_neg c2] at hF
    refine vj_aload_n G (p9 := 0) d_m_tidy_14 rfl rfl ?_
    refine vj_lload_n G (p9 := 2) d_m_tidy_15 rfl rfl ?_
    refine vj_aload_n G (p9 := 0) d_m_tidy_16 rfl rfl ?_
    refine gfR_m_169 G d_m_tidy_17 ?_
    refine vj_bipush G (v := 8) d_m_tidy_20 rfl ?_
    refine vj_iload_n G (p9 := 1) d_m_tidy_22 rfl rfl ?_
    refine vj_imul G d_m_tidy_23 ?_
    refine vj_iload G (p9 := 3) d_m_tidy_24 rfl ?_
    refine vj_iadd G d_m_tidy_26 ?_
    obtain ⟨c3, hF⟩ := ck_some hF
    refine vj_lald G (x := w32 ((w32 (8 * x1)) + x4)) lkR_33 (by decide) c3 d_m_tidy_27 ?_
    refine vj_mr (fun hM4 => ?_)
    obtain ⟨r5, M5, e5, hF⟩ := bnd_some hF
    refine vj_callV2 G (ct_m_divisor (gx_ij G) n x2 (M 33 (w32 ((w32 (8 * x1)) + x4)).toNat) hx2 (mr_al hM4 lkR_33) e5) lkR_0 clR_0 rfl q_1770 cq_m_divisor rfl (by decide) (by decide) (Nat.le_of_ble_eq_true rfl) d_m_tidy_28 rfl (fun hr5 => ?_)
    refine vj_lstore_n G (lv2 := [(2, .long (i64 r5)), (0, .ref (wa w 0)), (1, .int (i32 x1)), (4, .int (i32 x4))]) d_m_tidy_31 rfl (by decide) rfl ?_
    refine vj_iinc G (p9 := 3) (n := 1) (lv2 := [(4, .int (i32 (w32 (x4 + 1)))), (2, .long (i64 r5)), (0, .ref (wa w 0)), (1, .int (i32 x1))]) d_m_tidy_32 rfl (by decide) rfl ?_
    refine vj_goto G (tgt := 5) d_m_tidy_35 (by decide) ?_
    refine vj_sub [2, 3, 1, 0] rfl ?_
    exact hk5 x1 r5 (w32 (x4 + 1)) hx1 hr5 (ir_w _) _ hF
set_option maxHeartbeats 4000000 in
set_option maxRecDepth 100000 in
theorem wl_m_tidy_5 {w : Wd} {X : Cx} {r : Int} {M9 : Mm} (G0 : Gx LR w X "WhoRulesModel" b_m_tidy 5 1 30 none) (n : Nat) : ∀ (f : Nat) (x1 x2 x4 : Int) (hx1 : inR x1) (hx2 : in64 x2) (hx4 : inR x4) (M : Mm), lp_m_tidy_5 n f x1 x2 x4 M = some (r, M9) → VJ LR w X 5 0 r M9 M [(0, .ref (wa w 0)), (1, .int (i32 x1)), (2, .long (i64 x2)), (4, .int (i32 x4))] [] 5 := by
  intro f
  induction f with
  | zero => intro x1 x2 x4 hx1 hx2 hx4 M hF; cases hF
  | succ f ih => intro x1 x2 x4 hx1 hx2 hx4 M hF; exact wk_m_tidy_5 G0 n (lp_m_tidy_5 n f) ih x1 x2 x4 hx1 hx2 hx4 M hF
set_option maxHeartbeats 4000000 in
set_option maxRecDepth 100000 in
theorem ct_m_tidy {w : Wd} (hij : ij LR w) (n : Nat) (x1 : Int) (hx1 : inR x1) {M : Mm} {r : Int} {M9 : Mm} (hF : f_m_tidy n x1 M = some (r, M9)) : Ct LR w y_m_tidy b_m_tidy 5 none 1 30 0 [.ref (wa w 0), .int (i32 x1)] M r M9 := by
  refine Ct.of hij KstR (by decide +kernel) (Nat.le_of_ble_eq_true rfl) (fun X G0 => ?_)
  have G := G0.1
  show VJ LR w X 5 0 r M9 M [(0, .ref (wa w 0)), (1, .int (i32 x1))] [] 0
  unfold f_m_tidy at hF
  refine vj_lconst G (v := 0) d_m_tidy_0 rfl ?_
  refine vj_lstore_n G (lv2 := [(2, .long (i64 0)), (0, .ref (wa w 0)), (1, .int (i32 x1))]) d_m_tidy_1 rfl (by decide) rfl ?_
  refine vj_iconst G (v := 0) d_m_tidy_2 rfl ?_
  refine vj_istore G (lv2 := [(4, .int (i32 0)), (2, .long (i64 0)), (0, .ref (wa w 0)), (1, .int (i32 x1))]) d_m_tidy_3 (by decide) rfl ?_
  refine vj_sub [2, 3, 1, 0] rfl ?_
  exact wl_m_tidy_5 G0 n  n x1 0 0 hx1 (lr_i ic_0) ic_0 _ hF
set_option maxHeartbeats 4000000 in
set_option maxRecDepth 100000 in
theorem wk_m_placeOf_2 {w : Wd} {X : Cx} {r : Int} {M9 : Mm} (G0 : Gx LR w X "WhoRulesModel" b_m_placeOf 3 0 0 (some .int)) (n : Nat) (k2 : Int → Int → Mm → Rr) (hk2 : ∀ (x1 x2 : Int) (hx1 : inR x1) (hx2 : inR x2) (M : Mm), k2 x1 x2 M = some (r, M9) → VJ LR w X 3 1 r M9 M [(0, .ref (wa w 0)), (1, .int (i32 x1)), (2, .int (i32 x2))] [] 2) (x1 x2 : Int) (hx1 : inR x1) (hx2 : inR x2) (M : Mm) (hF : f_m_placeOf_2 n k2 x1 x2 M = some (r, M9)) : VJ LR w X 3 1 r M9 M [(0, .ref (wa w 0)), (1, .int (i32 x1)), (2, .int (i32 x2))] [] 2 := by
  have G := G0.1
  unfold f_m_placeOf_2 at hF
  refine vj_iload_n G (p9 := 2) d_m_placeOf_2 rfl rfl ?_
  refine vj_aload_n G (p9 := 0) d_m_placeOf_3 rfl rfl ?_
  refine gfR_m_179 G d_m_placeOf_4 ?_
  refine vj_mr (fun hM1 => ?_)
  refine vj_icmp_ge G (tgt := 28) d_m_placeOf_7 (by decide) hx2 (mr_o hM1 lkR_0 flR_0_55) (fun c2 => ?_) (fun c2 => ?_)
  · rw [if_pos c2] at hF
    refine vj_iconst G (v := (-1)) d_m_placeOf_28 rfl ?_
    cases hF
    exact vj_iret G0 ic_m1 d_m_placeOf_29
  · rw [if_neg c2] at hF
    refine vj_aload_n G (p9 := 0) d_m_placeOf_10 rfl rfl ?_
    refine gfR_m_173 G d_m_placeOf_11 ?_
    refine vj_iload_n G (p9 := 2) d_m_placeOf_14 rfl rfl ?_
    obtain ⟨c3, hF⟩ := ck_some hF
    refine vj_iald G (x := x2) lkR_34 (by decide) c3 d_m_placeOf_15 ?_
    refine vj_mr (fun hM4 => ?_)
    refine vj_iload_n G (p9 := 1) d_m_placeOf_16 rfl rfl ?_
    refine vj_icmp_ne G (tgt := 22) d_m_placeOf_17 (by decide) (mr_a hM4 lkR_34) hx1 (fun c5 => ?_) (fun c5 => ?_)
    · rw [if_pos c5] at hF
      refine vj_iinc G (p9 := 2) (n := 1) (lv2 := [(2, .int (i32 (w32 (x2 + 1)))), (0, .ref (wa w 0)), (1, .int (i32 x1))]) d_m_placeOf_22 rfl (by decide) rfl ?_
      refine vj_goto G (tgt := 2) d_m_placeOf_25 (by decide) ?_
      refine vj_sub [1, 2, 0] rfl ?_
      exact hk2 x1 (w32 (x2 + 1)) hx1 (ir_w _) _ hF
    · rw [if_neg c5] at hF
      refine vj_iload_n G (p9 := 2) d_m_placeOf_20 rfl rfl ?_
      cases hF
      exact vj_iret G0 hx2 d_m_placeOf_21
set_option maxHeartbeats 4000000 in
set_option maxRecDepth 100000 in
theorem wl_m_placeOf_2 {w : Wd} {X : Cx} {r : Int} {M9 : Mm} (G0 : Gx LR w X "WhoRulesModel" b_m_placeOf 3 0 0 (some .int)) (n : Nat) : ∀ (f : Nat) (x1 x2 : Int) (hx1 : inR x1) (hx2 : inR x2) (M : Mm), lp_m_placeOf_2 n f x1 x2 M = some (r, M9) → VJ LR w X 3 1 r M9 M [(0, .ref (wa w 0)), (1, .int (i32 x1)), (2, .int (i32 x2))] [] 2 := by
  intro f
  induction f with
  | zero => intro x1 x2 hx1 hx2 M hF; cases hF
  | succ f ih => intro x1 x2 hx1 hx2 M hF; exact wk_m_placeOf_2 G0 n (lp_m_placeOf_2 n f) ih x1 x2 hx1 hx2 M hF
set_option maxHeartbeats 4000000 in
set_option maxRecDepth 100000 in
theorem ct_m_placeOf {w : Wd} (hij : ij LR w) (n : Nat) (x1 : Int) (hx1 : inR x1) {M : Mm} {r : Int} {M9 : Mm} (hF : f_m_placeOf n x1 M = some (r, M9)) : Ct LR w y_m_placeOf b_m_placeOf 3 (some .int) 0 0 1 [.ref (wa w 0), .int (i32 x1)] M r M9 := by
  refine Ct.of hij KstR (by decide +kernel) (Nat.le_of_ble_eq_true rfl) (fun X G0 => ?_)
  have G := G0.1
  show VJ LR w X 3 1 r M9 M [(0, .ref (wa w 0)), (1, .int (i32 x1))] [] 0
  unfold f_m_placeOf at hF
  refine vj_iconst G (v := 0) d_m_placeOf_0 rfl ?_
  refine vj_istore_n G (lv2 := [(2, .int (i32 0)), (0, .ref (wa w 0)), (1, .int (i32 x1))]) d_m_placeOf_1 rfl (by decide) rfl ?_
  refine vj_sub [1, 2, 0] rfl ?_
  exact wl_m_placeOf_2 G0 n  n x1 0 hx1 ic_0 _ hF
set_option maxHeartbeats 4000000 in
set_option maxRecDepth 100000 in
theorem wk_m_putRows_237 {w : Wd} {X : Cx} {r : Int} {M9 : Mm} (G0 : Gx LR w X "WhoRulesModel" b_m_putRows 5 2 54 none) (n : Nat) (k86 : Int → Int → Mm → Rr) (hk86 : ∀ (x1 x2 : Int) (hx1 : inR x1) (hx2 : inR x2) (M : Mm), k86 x1 x2 M = some (r, M9) → VJ LR w X 5 0 r M9 M [(0, .ref (wa w 0)), (1, .int (i32 x1)), (2, .int (i32 x2))] [] 86) (k110 : Int → Int → Int → Mm → Rr) (hk110 : ∀ (x1 x2 x3 : Int) (hx1 : inR x1) (hx2 : inR x2) (hx3 : inR x3) (M : Mm), k110 x1 x2 x3 M = some (r, M9) → VJ LR w X 5 0 r M9 M [(0, .ref (wa w 0)), (1, .int (i32 x1)), (2, .int (i32 x2)), (3, .int (i32 x3))] [] 110) (x1 x2 x3 : Int) (hx1 : inR x1) (hx2 : inR x2) (hx3 : inR x3) (M : Mm) (hF : f_m_putRows_237 n k86 k110 x1 x2 x3 M = some (r, M9)) : VJ LR w X 5 0 r M9 M [(0, .ref (wa w 0)), (1, .int (i32 x1)), (2, .int (i32 x2)), (3, .int (i32 x3))] [] 237 := by
  have G := G0.1
  unfold f_m_putRows_237 at hF
  refine vj_iinc G (p9 := 3) (n := 1) (lv2 := [(3, .int (i32 (w32 (x3 + 1)))), (0, .ref (wa w 0)), (1, .int (i32 x1)), (2, .int (i32 x2))]) d_m_putRows_237 rfl (by decide) rfl ?_
  refine vj_goto G (tgt := 110) d_m_putRows_240 (by decide) ?_
  refine vj_sub [1, 2, 3, 0] rfl ?_
  exact hk110 x1 x2 (w32 (x3 + 1)) hx1 hx2 (ir_w _) _ hF
set_option maxHeartbeats 4000000 in
set_option maxRecDepth 100000 in
theorem wk_m_putRows_203 {w : Wd} {X : Cx} {r : Int} {M9 : Mm} (G0 : Gx LR w X "WhoRulesModel" b_m_putRows 5 2 54 none) (n : Nat) (k86 : Int → Int → Mm → Rr) (hk86 : ∀ (x1 x2 : Int) (hx1 : inR x1) (hx2 : inR x2) (M : Mm), k86 x1 x2 M = some (r, M9) → VJ LR w X 5 0 r M9 M [(0, .ref (wa w 0)), (1, .int (i32 x1)), (2, .int (i32 x2))] [] 86) (k110 : Int → Int → Int → Mm → Rr) (hk110 : ∀ (x1 x2 x3 : Int) (hx1 : inR x1) (hx2 : inR x2) (hx3 : inR x3) (M : Mm), k110 x1 x2 x3 M = some (r, M9) → VJ LR w X 5 0 r M9 M [(0, .ref (wa w 0)), (1, .int (i32 x1)), (2, .int (i32 x2)), (3, .int (i32 x3))] [] 110) (x1 x2 x3 : Int) (hx1 : inR x1) (hx2 : inR x2) (hx3 : inR x3) (M : Mm) (hF : f_m_putRows_203 n k86 k110 x1 x2 x3 M = some (r, M9)) : VJ LR w X 5 0 r M9 M [(0, .ref (wa w 0)), (1, .int (i32 x1)), (2, .int (i32 x2)), (3, .int (i32 x3))] [] 203 := by
  have G := G0.1
  unfold f_m_putRows_203 at hF
  refine vj_aload_n G (p9 := 0) d_m_putRows_203 rfl rfl ?_
  refine gfR_m_130 G d_m_putRows_204 ?_
  refine vj_iload_n G (p9 := 3) d_m_putRows_207 rfl rfl ?_
  obtain ⟨c1, hF⟩ := ck_some hF
  refine vj_iald G (x := x3) lkR_22 (by decide) c1 d_m_putRows_208 ?_
  refine vj_mr (fun hM2 => ?_)
  refine vj_iload_n G (p9 := 1) d_m_putRows_209 rfl rfl ?_
  refine vj_icmp_ne G (tgt := 237) d_m_putRows_210 (by decide) (mr_a hM2 lkR_22) hx1 (fun c3 => ?_) (fun c3 => ?_)
  · rw [if_pos c3] at hF
    exact wk_m_putRows_237 G0 n k86 hk86 k110 hk110 x1 x2 x3 hx1 hx2 hx3 _ hF
  · rw [if_neg c3] at hF
    refine vj_aload_n G (p9 := 0) d_m_putRows_213 rfl rfl ?_
    refine gfR_m_169 G d_m_putRows_214 ?_
    refine vj_bipush G (v := 8) d_m_putRows_217 rfl ?_
    refine vj_iload_n G (p9 := 2) d_m_putRows_219 rfl rfl ?_
    refine vj_imul G d_m_putRows_220 ?_
    refine vj_aload_n G (p9 := 0) d_m_putRows_221 rfl rfl ?_
    refine gfR_m_179 G d_m_putRows_222 ?_
    refine vj_mr (fun hM4 => ?_)
    refine vj_iadd G d_m_putRows_225 ?_
    refine vj_dup2_11 G d_m_putRows_226 rfl rfl ?_
    obtain ⟨c5, hF⟩ := ck_some hF
    refine vj_lald G (x := w32 ((w32 (8 * x2)) + (M 0 55))) lkR_33 (by decide) c5 d_m_putRows_227 ?_
    refine vj_aload_n G (p9 := 0) d_m_putRows_228 rfl rfl ?_
    refine gfR_m_38 G d_m_putRows_229 ?_
    refine vj_iload_n G (p9 := 3) d_m_putRows_232 rfl rfl ?_
    obtain ⟨c6, hF⟩ := ck_some hF
    refine vj_iald G (x := x3) lkR_5 (by decide) c6 d_m_putRows_233 ?_
    refine vj_i2l G d_m_putRows_234 (mr_a hM4 lkR_5) ?_
    refine vj_ladd G d_m_putRows_235 ?_
    obtain ⟨c7, hF⟩ := ck_some hF
    refine vj_last G (x := w32 ((w32 (8 * x2)) + (M 0 55))) lkR_33 (by decide) (by decide) (by decide) c7 (lr_w _) d_m_putRows_236 ?_
    exact wk_m_putRows_237 G0 n k86 hk86 k110 hk110 x1 x2 x3 hx1 hx2 hx3 _ hF
set_option maxHeartbeats 4000000 in
set_option maxRecDepth 100000 in
theorem wk_m_putRows_174 {w : Wd} {X : Cx} {r : Int} {M9 : Mm} (G0 : Gx LR w X "WhoRulesModel" b_m_putRows 5 2 54 none) (n : Nat) (k86 : Int → Int → Mm → Rr) (hk86 : ∀ (x1 x2 : Int) (hx1 : inR x1) (hx2 : inR x2) (M : Mm), k86 x1 x2 M = some (r, M9) → VJ LR w X 5 0 r M9 M [(0, .ref (wa w 0)), (1, .int (i32 x1)), (2, .int (i32 x2))] [] 86) (k110 : Int → Int → Int → Mm → Rr) (hk110 : ∀ (x1 x2 x3 : Int) (hx1 : inR x1) (hx2 : inR x2) (hx3 : inR x3) (M : Mm), k110 x1 x2 x3 M = some (r, M9) → VJ LR w X 5 0 r M9 M [(0, .ref (wa w 0)), (1, .int (i32 x1)), (2, .int (i32 x2)), (3, .int (i32 x3))] [] 110) (x1 x2 x3 s0 : Int) (hx1 : inR x1) (hx2 : inR x2) (hx3 : inR x3) (hs0 : inR s0) (M : Mm) (hF : f_m_putRows_174 n k86 k110 x1 x2 x3 s0 M = some (r, M9)) : VJ LR w X 5 0 r M9 M [(0, .ref (wa w 0)), (1, .int (i32 x1)), (2, .int (i32 x2)), (3, .int (i32 x3))] [.int (i32 s0)] 174 := by
  have G := G0.1
  unfold f_m_putRows_174 at hF
  refine vj_istore G (lv2 := [(4, .int (i32 s0)), (0, .ref (wa w 0)), (1, .int (i32 x1)), (2, .int (i32 x2)), (3, .int (i32 x3))]) d_m_putRows_174 (by decide) rfl ?_
  refine vj_iload G (p9 := 0) d_m_putRows_176 rfl ?_
  refine vj_if_lt G (tgt := 203) d_m_putRows_178 (by decide) hs0 (fun c1 => ?_) (fun c1 => ?_)
  · rw [if_pos c1] at hF
    refine vj_sub [1, 2, 3, 4] rfl ?_
    exact wk_m_putRows_203 G0 n k86 hk86 k110 hk110 x1 x2 x3 hx1 hx2 hx3 _ hF
  · rw [if_neg c1] at hF
    refine vj_aload_n G (p9 := 1) d_m_putRows_181 rfl rfl ?_
    refine gfR_m_169 G d_m_putRows_182 ?_
    refine vj_bipush G (v := 8) d_m_putRows_185 rfl ?_
    refine vj_iload_n G (p9 := 3) d_m_putRows_187 rfl rfl ?_
    refine vj_imul G d_m_putRows_188 ?_
    refine vj_iload G (p9 := 0) d_m_putRows_189 rfl ?_
    refine vj_iadd G d_m_putRows_191 ?_
    refine vj_dup2_11 G d_m_putRows_192 rfl rfl ?_
    obtain ⟨c2, hF⟩ := ck_some hF
    refine vj_lald G (x := w32 ((w32 (8 * x2)) + s0)) lkR_33 (by decide) c2 d_m_putRows_193 ?_
    refine vj_mr (fun hM3 => ?_)
    refine vj_aload_n G (p9 := 1) d_m_putRows_194 rfl rfl ?_
    refine gfR_m_38 G d_m_putRows_195 ?_
    refine vj_iload_n G (p9 := 4) d_m_putRows_198 rfl rfl ?_
    obtain ⟨c4, hF⟩ := ck_some hF
    refine vj_iald G (x := x3) lkR_5 (by decide) c4 d_m_putRows_199 ?_
    refine vj_i2l G d_m_putRows_200 (mr_a hM3 lkR_5) ?_
    refine vj_lsub G d_m_putRows_201 ?_
    obtain ⟨c5, hF⟩ := ck_some hF
    refine vj_last G (x := w32 ((w32 (8 * x2)) + s0)) lkR_33 (by decide) (by decide) (by decide) c5 (lr_w _) d_m_putRows_202 ?_
    refine vj_sub [1, 2, 3, 4] rfl ?_
    exact wk_m_putRows_203 G0 n k86 hk86 k110 hk110 x1 x2 x3 hx1 hx2 hx3 _ hF
set_option maxHeartbeats 4000000 in
set_option maxRecDepth 100000 in
theorem wk_m_putRows_110 {w : Wd} {X : Cx} {r : Int} {M9 : Mm} (G0 : Gx LR w X "WhoRulesModel" b_m_putRows 5 2 54 none) (n : Nat) (k86 : Int → Int → Mm → Rr) (hk86 : ∀ (x1 x2 : Int) (hx1 : inR x1) (hx2 : inR x2) (M : Mm), k86 x1 x2 M = some (r, M9) → VJ LR w X 5 0 r M9 M [(0, .ref (wa w 0)), (1, .int (i32 x1)), (2, .int (i32 x2))] [] 86) (k110 : Int → Int → Int → Mm → Rr) (hk110 : ∀ (x1 x2 x3 : Int) (hx1 : inR x1) (hx2 : inR x2) (hx3 : inR x3) (M : Mm), k110 x1 x2 x3 M = some (r, M9) → VJ LR w X 5 0 r M9 M [(0, .ref (wa w 0)), (1, .int (i32 x1)), (2, .int (i32 x2)), (3, .int (i32 x3))] [] 110) (x1 x2 x3 : Int) (hx1 : inR x1) (hx2 : inR x2) (hx3 : inR x3) (M : Mm) (hF : f_m_putRows_110 n k86 k110 x1 x2 x3 M = some (r, M9)) : VJ LR w X 5 0 r M9 M [(0, .ref (wa w 0)), (1, .int (i32 x1)), (2, .int (i32 x2)), (3, .int (i32 x3))] [] 110 := by
  have G := G0.1
  unfold f_m_putRows_110 at hF
  refine vj_iload_n G (p9 := 3) d_m_putRows_110 rfl rfl ?_
  refine vj_aload_n G (p9 := 0) d_m_putRows_111 rfl rfl ?_
  refine gfR_m_19 G d_m_putRows_112 ?_
  refine vj_mr (fun hM1 => ?_)
  refine vj_icmp_ge G (tgt := 243) d_m_putRows_115 (by decide) hx3 (mr_o hM1 lkR_0 flR_0_3) (fun c2 => ?_) (fun c2 => ?_)
  · rw [if_pos c2] at hF
    refine vj_aload_n G (p9 := 0) d_m_putRows_243 rfl rfl ?_
    refine vj_iload_n G (p9 := 2) d_m_putRows_244 rfl rfl ?_
    obtain ⟨r3, M3, e3, hF⟩ := bnd_some hF
    refine vj_callV0 G (ct_m_tidy (gx_ij G) n x2 hx2 e3) lkR_0 clR_0 rfl q_1766 cq_m_tidy rfl (by decide) (by decide) (Nat.le_of_ble_eq_true rfl) d_m_putRows_245 rfl (fun hr3 => ?_)
    refine vj_iinc G (p9 := 2) (n := 1) (lv2 := [(2, .int (i32 (w32 (x2 + 1)))), (0, .ref (wa w 0)), (1, .int (i32 x1)), (3, .int (i32 x3))]) d_m_putRows_248 rfl (by decide) rfl ?_
    refine vj_goto G (tgt := 86) d_m_putRows_251 (by decide) ?_
    refine vj_sub [1, 2, 0] rfl ?_
    exact hk86 x1 (w32 (x2 + 1)) hx1 (ir_w _) _ hF
  · rw [if_neg c2] at hF
    refine vj_aload_n G (p9 := 0) d_m_putRows_118 rfl rfl ?_
    refine gfR_m_32 G d_m_putRows_119 ?_
    refine vj_iload_n G (p9 := 3) d_m_putRows_122 rfl rfl ?_
    obtain ⟨c4, hF⟩ := ck_some hF
    refine vj_iald G (x := x3) lkR_3 (by decide) c4 d_m_putRows_123 ?_
    refine vj_mr (fun hM5 => ?_)
    refine vj_aload_n G (p9 := 0) d_m_putRows_124 rfl rfl ?_
    refine gfR_m_173 G d_m_putRows_125 ?_
    refine vj_iload_n G (p9 := 2) d_m_putRows_128 rfl rfl ?_
    obtain ⟨c6, hF⟩ := ck_some hF
    refine vj_iald G (x := x2) lkR_34 (by decide) c6 d_m_putRows_129 ?_
    refine vj_icmp_ne G (tgt := 237) d_m_putRows_130 (by decide) (mr_a hM5 lkR_3) (mr_a hM5 lkR_34) (fun c7 => ?_) (fun c7 => ?_)
    · rw [if_pos c7] at hF
      exact wk_m_putRows_237 G0 n k86 hk86 k110 hk110 x1 x2 x3 hx1 hx2 hx3 _ hF
    · rw [if_neg c7] at hF
      refine vj_aload_n G (p9 := 0) d_m_putRows_133 rfl rfl ?_
      refine gfR_m_130 G d_m_putRows_134 ?_
      refine vj_iload_n G (p9 := 3) d_m_putRows_137 rfl rfl ?_
      obtain ⟨c8, hF⟩ := ck_some hF
      refine vj_iald G (x := x3) lkR_22 (by decide) c8 d_m_putRows_138 ?_
      refine vj_mr (fun hM9 => ?_)
      refine vj_if_ge G (tgt := 145) d_m_putRows_139 (by decide) (mr_a hM9 lkR_22) (fun c10 => ?_) (fun c10 => ?_)
      · rw [if_pos c10] at hF
        refine vj_aload_n G (p9 := 0) d_m_putRows_145 rfl rfl ?_
        refine gfR_m_25 G d_m_putRows_146 ?_
        refine vj_aload_n G (p9 := 0) d_m_putRows_149 rfl rfl ?_
        refine gfR_m_130 G d_m_putRows_150 ?_
        refine vj_iload_n G (p9 := 3) d_m_putRows_153 rfl rfl ?_
        obtain ⟨c11, hF⟩ := ck_some hF
        refine vj_iald G (x := x3) lkR_22 (by decide) c11 d_m_putRows_154 ?_
        refine vj_mr (fun hM12 => ?_)
        obtain ⟨c13, hF⟩ := ck_some hF
        refine vj_iald G (x := (M 22 x3.toNat)) lkR_1 (by decide) c13 d_m_putRows_155 ?_
        refine vj_iconst G (v := 1) d_m_putRows_156 rfl ?_
        refine vj_icmp_ne G (tgt := 173) d_m_putRows_157 (by decide) (mr_a hM12 lkR_1) ic_1 (fun c14 => ?_) (fun c14 => ?_)
        · rw [if_pos c14] at hF
          refine vj_iconst G (v := (-1)) d_m_putRows_173 rfl ?_
          exact wk_m_putRows_174 G0 n k86 hk86 k110 hk110 x1 x2 x3 (-1) hx1 hx2 hx3 ic_m1 _ hF
        · rw [if_neg c14] at hF
          refine vj_aload_n G (p9 := 0) d_m_putRows_160 rfl rfl ?_
          refine vj_aload_n G (p9 := 0) d_m_putRows_161 rfl rfl ?_
          refine gfR_m_130 G d_m_putRows_162 ?_
          refine vj_iload_n G (p9 := 3) d_m_putRows_165 rfl rfl ?_
          obtain ⟨c15, hF⟩ := ck_some hF
          refine vj_iald G (x := x3) lkR_22 (by decide) c15 d_m_putRows_166 ?_
          refine vj_mr (fun hM16 => ?_)
          obtain ⟨r17, M17, e17, hF⟩ := bnd_some hF
          refine vj_callV1 G (ct_m_placeOf (gx_ij G) n (M 22 x3.toNat) (mr_a hM16 lkR_22) e17) lkR_0 clR_0 rfl q_1762 cq_m_placeOf rfl (by decide) (by decide) (Nat.le_of_ble_eq_true rfl) d_m_putRows_167 rfl (fun hr17 => ?_)
          refine vj_goto G (tgt := 174) d_m_putRows_170 (by decide) ?_
          exact wk_m_putRows_174 G0 n k86 hk86 k110 hk110 x1 x2 x3 r17 hx1 hx2 hx3 hr17 _ hF
      · rw [if_neg c10] at hF
        refine vj_goto G (tgt := 237) d_m_putRows_142 (by decide) ?_
        exact wk_m_putRows_237 G0 n k86 hk86 k110 hk110 x1 x2 x3 hx1 hx2 hx3 _ hF
set_option maxHeartbeats 4000000 in
set_option maxRecDepth 100000 in
theorem wl_m_putRows_110 {w : Wd} {X : Cx} {r : Int} {M9 : Mm} (G0 : Gx LR w X "WhoRulesModel" b_m_putRows 5 2 54 none) (n : Nat) (k86 : Int → Int → Mm → Rr) (hk86 : ∀ (x1 x2 : Int) (hx1 : inR x1) (hx2 : inR x2) (M : Mm), k86 x1 x2 M = some (r, M9) → VJ LR w X 5 0 r M9 M [(0, .ref (wa w 0)), (1, .int (i32 x1)), (2, .int (i32 x2))] [] 86) : ∀ (f : Nat) (x1 x2 x3 : Int) (hx1 : inR x1) (hx2 : inR x2) (hx3 : inR x3) (M : Mm), lp_m_putRows_110 n k86 f x1 x2 x3 M = some (r, M9) → VJ LR w X 5 0 r M9 M [(0, .ref (wa w 0)), (1, .int (i32 x1)), (2, .int (i32 x2)), (3, .int (i32 x3))] [] 110 := by
  intro f
  induction f with
  | zero => intro x1 x2 x3 hx1 hx2 hx3 M hF; cases hF
  | succ f ih => intro x1 x2 x3 hx1 hx2 hx3 M hF; exact wk_m_putRows_110 G0 n k86 hk86 (lp_m_putRows_110 n k86 f) ih x1 x2 x3 hx1 hx2 hx3 M hF
set_option maxHeartbeats 4000000 in
set_option maxRecDepth 100000 in
theorem wk_m_putRows_86 {w : Wd} {X : Cx} {r : Int} {M9 : Mm} (G0 : Gx LR w X "WhoRulesModel" b_m_putRows 5 2 54 none) (n : Nat) (k86 : Int → Int → Mm → Rr) (hk86 : ∀ (x1 x2 : Int) (hx1 : inR x1) (hx2 : inR x2) (M : Mm), k86 x1 x2 M = some (r, M9) → VJ LR w X 5 0 r M9 M [(0, .ref (wa w 0)), (1, .int (i32 x1)), (2, .int (i32 x2))] [] 86) (x1 x2 : Int) (hx1 : inR x1) (hx2 : inR x2) (M : Mm) (hF : f_m_putRows_86 n k86 x1 x2 M = some (r, M9)) : VJ LR w X 5 0 r M9 M [(0, .ref (wa w 0)), (1, .int (i32 x1)), (2, .int (i32 x2))] [] 86 := by
  have G := G0.1
  unfold f_m_putRows_86 at hF
  refine vj_iload_n G (p9 := 2) d_m_putRows_86 rfl rfl ?_
  refine vj_aload_n G (p9 := 0) d_m_putRows_87 rfl rfl ?_
  refine gfR_m_179 G d_m_putRows_88 ?_
  refine vj_mr (fun hM1 => ?_)
  refine vj_icmp_ge G (tgt := 254) d_m_putRows_91 (by decide) hx2 (mr_o hM1 lkR_0 flR_0_55) (fun c2 => ?_) (fun c2 => ?_)
  · rw [if_pos c2] at hF
    cases hF
    exact vj_vret G0 d_m_putRows_254
  · rw [if_neg c2] at hF
    refine vj_aload_n G (p9 := 0) d_m_putRows_94 rfl rfl ?_
    refine gfR_m_169 G d_m_putRows_95 ?_
    refine vj_bipush G (v := 8) d_m_putRows_98 rfl ?_
    refine vj_iload_n G (p9 := 2) d_m_putRows_100 rfl rfl ?_
    refine vj_imul G d_m_putRows_101 ?_
    refine vj_iload_n G (p9 := 2) d_m_putRows_102 rfl rfl ?_
    refine vj_iadd G d_m_putRows_103 ?_
    refine vj_ldc2 G (v := 12) d_m_putRows_104 q_1761 rfl ?_
    obtain ⟨c3, hF⟩ := ck_some hF
    refine vj_last G (x := w32 ((w32 (8 * x2)) + x2)) lkR_33 (by decide) (by decide) (by decide) c3 ⟨by decide, by decide⟩ d_m_putRows_107 ?_
    refine vj_iconst G (v := 0) d_m_putRows_108 rfl ?_
    refine vj_istore_n G (lv2 := [(3, .int (i32 0)), (0, .ref (wa w 0)), (1, .int (i32 x1)), (2, .int (i32 x2))]) d_m_putRows_109 rfl (by decide) rfl ?_
    refine vj_sub [1, 2, 3, 0] rfl ?_
    exact wl_m_putRows_110 G0 n k86 hk86 n x1 x2 0 hx1 hx2 ic_0 _ hF
set_option maxHeartbeats 4000000 in
set_option maxRecDepth 100000 in
theorem wl_m_putRows_86 {w : Wd} {X : Cx} {r : Int} {M9 : Mm} (G0 : Gx LR w X "WhoRulesModel" b_m_putRows 5 2 54 none) (n : Nat) : ∀ (f : Nat) (x1 x2 : Int) (hx1 : inR x1) (hx2 : inR x2) (M : Mm), lp_m_putRows_86 n f x1 x2 M = some (r, M9) → VJ LR w X 5 0 r M9 M [(0, .ref (wa w 0)), (1, .int (i32 x1)), (2, .int (i32 x2))] [] 86 := by
  intro f
  induction f with
  | zero => intro x1 x2 hx1 hx2 M hF; cases hF
  | succ f ih => intro x1 x2 hx1 hx2 M hF; exact wk_m_putRows_86 G0 n (lp_m_putRows_86 n f) ih x1 x2 hx1 hx2 M hF
set_option maxHeartbeats 4000000 in
set_option maxRecDepth 100000 in
theorem wk_m_putRows_65 {w : Wd} {X : Cx} {r : Int} {M9 : Mm} (G0 : Gx LR w X "WhoRulesModel" b_m_putRows 5 2 54 none) (n : Nat) (k65 : Int → Int → Mm → Rr) (hk65 : ∀ (x1 x2 : Int) (hx1 : inR x1) (hx2 : inR x2) (M : Mm), k65 x1 x2 M = some (r, M9) → VJ LR w X 5 0 r M9 M [(0, .ref (wa w 0)), (1, .int (i32 x1)), (2, .int (i32 x2))] [] 65) (x1 x2 : Int) (hx1 : inR x1) (hx2 : inR x2) (M : Mm) (hF : f_m_putRows_65 n k65 x1 x2 M = some (r, M9)) : VJ LR w X 5 0 r M9 M [(0, .ref (wa w 0)), (1, .int (i32 x1)), (2, .int (i32 x2))] [] 65 := by
  have G := G0.1
  unfold f_m_putRows_65 at hF
  refine vj_iload_n G (p9 := 2) d_m_putRows_65 rfl rfl ?_
  refine vj_bipush G (v := 56) d_m_putRows_66 rfl ?_
  refine vj_icmp_ge G (tgt := 84) d_m_putRows_68 (by decide) hx2 ic_56 (fun c1 => ?_) (fun c1 => ?_)
  · rw [if_pos c1] at hF
    refine vj_iconst G (v := 0) d_m_putRows_84 rfl ?_
    refine vj_istore_n G (lv2 := [(2, .int (i32 0)), (0, .ref (wa w 0)), (1, .int (i32 x1))]) d_m_putRows_85 rfl (by decide) rfl ?_
    refine vj_sub [1, 2, 0] rfl ?_
    exact wl_m_putRows_86 G0 n  n x1 0 hx1 ic_0 _ hF
  · rw [if_neg c1] at hF
    refine vj_aload_n G (p9 := 0) d_m_putRows_71 rfl rfl ?_
    refine gfR_m_169 G d_m_putRows_72 ?_
    refine vj_iload_n G (p9 := 2) d_m_putRows_75 rfl rfl ?_
    refine vj_lconst G (v := 0) d_m_putRows_76 rfl ?_
    obtain ⟨c2, hF⟩ := ck_some hF
    refine vj_last G (x := x2) lkR_33 (by decide) (by decide) (by decide) c2 (lr_i ic_0) d_m_putRows_77 ?_
    refine vj_iinc G (p9 := 2) (n := 1) (lv2 := [(2, .int (i32 (w32 (x2 + 1)))), (0, .ref (wa w 0)), (1, .int (i32 x1))]) d_m_putRows_78 rfl (by decide) rfl ?_
    refine vj_goto G (tgt := 65) d_m_putRows_81 (by decide) ?_
    refine vj_sub [1, 2, 0] rfl ?_
    exact hk65 x1 (w32 (x2 + 1)) hx1 (ir_w _) _ hF
set_option maxHeartbeats 4000000 in
set_option maxRecDepth 100000 in
theorem wl_m_putRows_65 {w : Wd} {X : Cx} {r : Int} {M9 : Mm} (G0 : Gx LR w X "WhoRulesModel" b_m_putRows 5 2 54 none) (n : Nat) : ∀ (f : Nat) (x1 x2 : Int) (hx1 : inR x1) (hx2 : inR x2) (M : Mm), lp_m_putRows_65 n f x1 x2 M = some (r, M9) → VJ LR w X 5 0 r M9 M [(0, .ref (wa w 0)), (1, .int (i32 x1)), (2, .int (i32 x2))] [] 65 := by
  intro f
  induction f with
  | zero => intro x1 x2 hx1 hx2 M hF; cases hF
  | succ f ih => intro x1 x2 hx1 hx2 M hF; exact wk_m_putRows_65 G0 n (lp_m_putRows_65 n f) ih x1 x2 hx1 hx2 M hF
set_option maxHeartbeats 4000000 in
set_option maxRecDepth 100000 in
theorem wk_m_putRows_57 {w : Wd} {X : Cx} {r : Int} {M9 : Mm} (G0 : Gx LR w X "WhoRulesModel" b_m_putRows 5 2 54 none) (n : Nat) (k7 : Int → Int → Mm → Rr) (hk7 : ∀ (x1 x2 : Int) (hx1 : inR x1) (hx2 : inR x2) (M : Mm), k7 x1 x2 M = some (r, M9) → VJ LR w X 5 0 r M9 M [(0, .ref (wa w 0)), (1, .int (i32 x1)), (2, .int (i32 x2))] [] 7) (x1 x2 : Int) (hx1 : inR x1) (hx2 : inR x2) (M : Mm) (hF : f_m_putRows_57 n k7 x1 x2 M = some (r, M9)) : VJ LR w X 5 0 r M9 M [(0, .ref (wa w 0)), (1, .int (i32 x1)), (2, .int (i32 x2))] [] 57 := by
  have G := G0.1
  unfold f_m_putRows_57 at hF
  refine vj_iinc G (p9 := 2) (n := 1) (lv2 := [(2, .int (i32 (w32 (x2 + 1)))), (0, .ref (wa w 0)), (1, .int (i32 x1))]) d_m_putRows_57 rfl (by decide) rfl ?_
  refine vj_goto G (tgt := 7) d_m_putRows_60 (by decide) ?_
  refine vj_sub [1, 2, 0] rfl ?_
  exact hk7 x1 (w32 (x2 + 1)) hx1 (ir_w _) _ hF
set_option maxHeartbeats 4000000 in
set_option maxRecDepth 100000 in
theorem wk_m_putRows_7 {w : Wd} {X : Cx} {r : Int} {M9 : Mm} (G0 : Gx LR w X "WhoRulesModel" b_m_putRows 5 2 54 none) (n : Nat) (k7 : Int → Int → Mm → Rr) (hk7 : ∀ (x1 x2 : Int) (hx1 : inR x1) (hx2 : inR x2) (M : Mm), k7 x1 x2 M = some (r, M9) → VJ LR w X 5 0 r M9 M [(0, .ref (wa w 0)), (1, .int (i32 x1)), (2, .int (i32 x2))] [] 7) (x1 x2 : Int) (hx1 : inR x1) (hx2 : inR x2) (M : Mm) (hF : f_m_putRows_7 n k7 x1 x2 M = some (r, M9)) : VJ LR w X 5 0 r M9 M [(0, .ref (wa w 0)), (1, .int (i32 x1)), (2, .int (i32 x2))] [] 7 := by
  have G := G0.1
  unfold f_m_putRows_7 at hF
  refine vj_iload_n G (p9 := 2) d_m_putRows_7 rfl rfl ?_
  refine vj_aload_n G (p9 := 0) d_m_putRows_8 rfl rfl ?_
  refine gfR_m_13 G d_m_putRows_9 ?_
  refine vj_mr (fun hM1 => ?_)
  refine vj_icmp_ge G (tgt := 63) d_m_putRows_12 (by decide) hx2 (mr_o hM1 lkR_0 flR_0_1) (fun c2 => ?_) (fun c2 => ?_)
  · rw [if_pos c2] at hF
    refine vj_iconst G (v := 0) d_m_putRows_63 rfl ?_
    refine vj_istore_n G (lv2 := [(2, .int (i32 0)), (0, .ref (wa w 0)), (1, .int (i32 x1))]) d_m_putRows_64 rfl (by decide) rfl ?_
    refine vj_sub [1, 2, 0] rfl ?_
    exact wl_m_putRows_65 G0 n  n x1 0 hx1 ic_0 _ hF
  · rw [if_neg c2] at hF
    refine vj_aload_n G (p9 := 0) d_m_putRows_15 rfl rfl ?_
    refine gfR_m_25 G d_m_putRows_16 ?_
    refine vj_iload_n G (p9 := 2) d_m_putRows_19 rfl rfl ?_
    obtain ⟨c3, hF⟩ := ck_some hF
    refine vj_iald G (x := x2) lkR_1 (by decide) c3 d_m_putRows_20 ?_
    refine vj_mr (fun hM4 => ?_)
    refine vj_iconst G (v := 1) d_m_putRows_21 rfl ?_
    refine vj_icmp_ne G (tgt := 57) d_m_putRows_22 (by decide) (mr_a hM4 lkR_1) ic_1 (fun c5 => ?_) (fun c5 => ?_)
    · rw [if_pos c5] at hF
      exact wk_m_putRows_57 G0 n k7 hk7 x1 x2 hx1 hx2 _ hF
    · rw [if_neg c5] at hF
      refine vj_aload_n G (p9 := 0) d_m_putRows_25 rfl rfl ?_
      refine gfR_m_176 G d_m_putRows_26 ?_
      refine vj_iload_n G (p9 := 2) d_m_putRows_29 rfl rfl ?_
      obtain ⟨c6, hF⟩ := ck_some hF
      refine vj_iald G (x := x2) lkR_35 (by decide) c6 d_m_putRows_30 ?_
      refine vj_mr (fun hM7 => ?_)
      refine vj_if_ne G (tgt := 37) d_m_putRows_31 (by decide) (mr_a hM7 lkR_35) (fun c8 => ?_) (fun c8 => ?_)
      · rw [if_pos c8] at hF
        refine vj_aload_n G (p9 := 0) d_m_putRows_37 rfl rfl ?_
        refine gfR_m_173 G d_m_putRows_38 ?_
        refine vj_aload_n G (p9 := 0) d_m_putRows_41 rfl rfl ?_
        refine gfR_m_179 G d_m_putRows_42 ?_
        refine vj_mr (fun hM9 => ?_)
        refine vj_iload_n G (p9 := 2) d_m_putRows_45 rfl rfl ?_
        obtain ⟨c10, hF⟩ := ck_some hF
        refine vj_iast G (x := (M 0 55)) lkR_34 (by decide) (by decide) (by decide) c10 hx2 d_m_putRows_46 ?_
        refine vj_aload_n G (p9 := 0) d_m_putRows_47 rfl rfl ?_
        refine vj_dup G d_m_putRows_48 rfl ?_
        refine gfR_m_179 G d_m_putRows_49 ?_
        refine vj_mr (fun hM11 => ?_)
        refine vj_iconst G (v := 1) d_m_putRows_52 rfl ?_
        refine vj_iadd G d_m_putRows_53 ?_
        refine pfR_m_179 G (ir_w _) d_m_putRows_54 ?_
        exact wk_m_putRows_57 G0 n k7 hk7 x1 x2 hx1 hx2 _ hF
      · rw [if_neg c8] at hF
        refine vj_goto G (tgt := 57) d_m_putRows_34 (by decide) ?_
        exact wk_m_putRows_57 G0 n k7 hk7 x1 x2 hx1 hx2 _ hF
