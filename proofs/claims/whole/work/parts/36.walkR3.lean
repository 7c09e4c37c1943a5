/-! Written by wip/whole/gen. Walks. -/
set_option maxHeartbeats 4000000 in
set_option maxRecDepth 100000 in
theorem wl_m_findInto_2 {w : Wd} {X : Cx} {r : Int} {M9 : Mm} (G0 : Gx LR w X "WhoRulesModel" b_m_findInto 2 0 0 none) (n : Nat) : ∀ (f : Nat) (x1 : Int) (hx1 : inR x1) (M : Mm), lp_m_findInto_2 n f x1 M = some (r, M9) → VJ LR w X 2 0 r M9 M [(0, .ref (wa w 0)), (1, .int (i32 x1))] [] 2 := by
  intro f
  induction f with
  | zero => intro x1 hx1 M hF; cases hF
  | succ f ih => intro x1 hx1 M hF; exact wk_m_findInto_2 G0 n (lp_m_findInto_2 n f) ih x1 hx1 M hF
set_option maxHeartbeats 4000000 in
set_option maxRecDepth 100000 in
theorem ct_m_findInto {w : Wd} (hij : ij LR w) (n : Nat) {M : Mm} {r : Int} {M9 : Mm} (hF : f_m_findInto n  M = some (r, M9)) : Ct LR w y_m_findInto b_m_findInto 2 none 0 0 0 [.ref (wa w 0)] M r M9 := by
  refine Ct.of hij KstR (by decide +kernel) (Nat.le_of_ble_eq_true rfl) (fun X G0 => ?_)
  have G := G0.1
  show VJ LR w X 2 0 r M9 M [(0, .ref (wa w 0))] [] 0
  unfold f_m_findInto at hF
  refine vj_iconst G (v := 0) d_m_findInto_0 rfl ?_
  refine vj_istore_n G (lv2 := [(1, .int (i32 0)), (0, .ref (wa w 0))]) d_m_findInto_1 rfl (by decide) rfl ?_
  refine vj_sub [1, 0] rfl ?_
  exact wl_m_findInto_2 G0 n  n 0 ic_0 _ hF
set_option maxHeartbeats 4000000 in
set_option maxRecDepth 100000 in
theorem wk_m_around_214 {w : Wd} {X : Cx} {r : Int} {M9 : Mm} (G0 : Gx LR w X "WhoRulesModel" b_m_around 6 0 0 (some .int)) (n : Nat) (k171 : Int → Int → Int → Mm → Rr) (hk171 : ∀ (x1 x2 x3 : Int) (hx1 : inR x1) (hx2 : inR x2) (hx3 : inR x3) (M : Mm), k171 x1 x2 x3 M = some (r, M9) → VJ LR w X 6 1 r M9 M [(0, .ref (wa w 0)), (1, .int (i32 x1)), (2, .int (i32 x2)), (3, .int (i32 x3))] [] 171) (x1 x2 x3 : Int) (hx1 : inR x1) (hx2 : inR x2) (hx3 : inR x3) (M : Mm) (hF : f_m_around_214 n k171 x1 x2 x3 M = some (r, M9)) : VJ LR w X 6 1 r M9 M [(0, .ref (wa w 0)), (1, .int (i32 x1)), (2, .int (i32 x2)), (3, .int (i32 x3))] [] 214 := by
  have G := G0.1
  unfold f_m_around_214 at hF
  refine vj_iinc G (p9 := 3) (n := 1) (lv2 := [(3, .int (i32 (w32 (x3 + 1)))), (0, .ref (wa w 0)), (1, .int (i32 x1)), (2, .int (i32 x2))]) d_m_around_214 rfl (by decide) rfl ?_
  refine vj_goto G (tgt := 171) d_m_around_217 (by decide) ?_
  refine vj_sub [1, 2, 3, 0] rfl ?_
  exact hk171 x1 x2 (w32 (x3 + 1)) hx1 hx2 (ir_w _) _ hF
set_option maxHeartbeats 4000000 in
set_option maxRecDepth 100000 in
theorem wk_m_around_171 {w : Wd} {X : Cx} {r : Int} {M9 : Mm} (G0 : Gx LR w X "WhoRulesModel" b_m_around 6 0 0 (some .int)) (n : Nat) (k171 : Int → Int → Int → Mm → Rr) (hk171 : ∀ (x1 x2 x3 : Int) (hx1 : inR x1) (hx2 : inR x2) (hx3 : inR x3) (M : Mm), k171 x1 x2 x3 M = some (r, M9) → VJ LR w X 6 1 r M9 M [(0, .ref (wa w 0)), (1, .int (i32 x1)), (2, .int (i32 x2)), (3, .int (i32 x3))] [] 171) (x1 x2 x3 : Int) (hx1 : inR x1) (hx2 : inR x2) (hx3 : inR x3) (M : Mm) (hF : f_m_around_171 n k171 x1 x2 x3 M = some (r, M9)) : VJ LR w X 6 1 r M9 M [(0, .ref (wa w 0)), (1, .int (i32 x1)), (2, .int (i32 x2)), (3, .int (i32 x3))] [] 171 := by
  have G := G0.1
  unfold f_m_around_171 at hF
  refine vj_iload_n G (p9 := 3) d_m_around_171 rfl rfl ?_
  refine vj_aload_n G (p9 := 0) d_m_around_172 rfl rfl ?_
  refine gfR_m_13 G d_m_around_173 ?_
  refine vj_mr (fun hM1 => ?_)
  refine vj_icmp_ge G (tgt := 220) d_m_around_176 (by decide) hx3 (mr_o hM1 lkR_0 flR_0_1) (fun c2 => ?_) (fun c2 => ?_)
  · rw [if_pos c2] at hF
    refine vj_iload_n G (p9 := 2) d_m_around_220 rfl rfl ?_
    cases hF
    exact vj_iret G0 hx2 d_m_around_221
  · rw [if_neg c2] at hF
    refine vj_aload_n G (p9 := 0) d_m_around_179 rfl rfl ?_
    refine gfR_m_216 G d_m_around_180 ?_
    refine vj_iload_n G (p9 := 1) d_m_around_183 rfl rfl ?_
    obtain ⟨c3, hF⟩ := ck_some hF
    refine vj_iald G (x := x1) lkR_43 (by decide) c3 d_m_around_184 ?_
    refine vj_mr (fun hM4 => ?_)
    refine vj_iload_n G (p9 := 3) d_m_around_185 rfl rfl ?_
    refine vj_ishr G d_m_around_186 ?_
    refine vj_iconst G (v := 1) d_m_around_187 rfl ?_
    refine vj_iand G d_m_around_188 ?_
    refine vj_iconst G (v := 1) d_m_around_189 rfl ?_
    refine vj_icmp_ne G (tgt := 214) d_m_around_190 (by decide) (ir_an _ _) ic_1 (fun c5 => ?_) (fun c5 => ?_)
    · rw [if_pos c5] at hF
      exact wk_m_around_214 G0 n k171 hk171 x1 x2 x3 hx1 hx2 hx3 _ hF
    · rw [if_neg c5] at hF
      refine vj_aload_n G (p9 := 0) d_m_around_193 rfl rfl ?_
      refine gfR_m_219 G d_m_around_194 ?_
      refine vj_iload_n G (p9 := 3) d_m_around_197 rfl rfl ?_
      obtain ⟨c6, hF⟩ := ck_some hF
      refine vj_iald G (x := x3) lkR_44 (by decide) c6 d_m_around_198 ?_
      refine vj_mr (fun hM7 => ?_)
      refine vj_iconst G (v := 1) d_m_around_199 rfl ?_
      refine vj_iadd G d_m_around_200 ?_
      refine vj_iload_n G (p9 := 2) d_m_around_201 rfl rfl ?_
      refine vj_icmp_ge G (tgt := 214) d_m_around_202 (by decide) (ir_w _) hx2 (fun c8 => ?_) (fun c8 => ?_)
      · rw [if_pos c8] at hF
        exact wk_m_around_214 G0 n k171 hk171 x1 x2 x3 hx1 hx2 hx3 _ hF
      · rw [if_neg c8] at hF
        refine vj_aload_n G (p9 := 0) d_m_around_205 rfl rfl ?_
        refine gfR_m_219 G d_m_around_206 ?_
        refine vj_iload_n G (p9 := 3) d_m_around_209 rfl rfl ?_
        obtain ⟨c9, hF⟩ := ck_some hF
        refine vj_iald G (x := x3) lkR_44 (by decide) c9 d_m_around_210 ?_
        refine vj_mr (fun hM10 => ?_)
        refine vj_iconst G (v := 1) d_m_around_211 rfl ?_
        refine vj_iadd G d_m_around_212 ?_
        refine vj_istore_n G (lv2 := [(2, .int (i32 (w32 ((M 44 x3.toNat) + 1)))), (0, .ref (wa w 0)), (1, .int (i32 x1)), (3, .int (i32 x3))]) d_m_around_213 rfl (by decide) rfl ?_
        refine vj_sub [1, 2, 0, 3] rfl ?_
        exact wk_m_around_214 G0 n k171 hk171 x1 (w32 ((M 44 x3.toNat) + 1)) x3 hx1 (ir_w _) hx3 _ hF
set_option maxHeartbeats 4000000 in
set_option maxRecDepth 100000 in
theorem wl_m_around_171 {w : Wd} {X : Cx} {r : Int} {M9 : Mm} (G0 : Gx LR w X "WhoRulesModel" b_m_around 6 0 0 (some .int)) (n : Nat) : ∀ (f : Nat) (x1 x2 x3 : Int) (hx1 : inR x1) (hx2 : inR x2) (hx3 : inR x3) (M : Mm), lp_m_around_171 n f x1 x2 x3 M = some (r, M9) → VJ LR w X 6 1 r M9 M [(0, .ref (wa w 0)), (1, .int (i32 x1)), (2, .int (i32 x2)), (3, .int (i32 x3))] [] 171 := by
  intro f
  induction f with
  | zero => intro x1 x2 x3 hx1 hx2 hx3 M hF; cases hF
  | succ f ih => intro x1 x2 x3 hx1 hx2 hx3 M hF; exact wk_m_around_171 G0 n (lp_m_around_171 n f) ih x1 x2 x3 hx1 hx2 hx3 M hF
set_option maxHeartbeats 4000000 in
set_option maxRecDepth 100000 in
theorem wk_m_around_155 {w : Wd} {X : Cx} {r : Int} {M9 : Mm} (G0 : Gx LR w X "WhoRulesModel" b_m_around 6 0 0 (some .int)) (n : Nat) (k45 : Int → Int → Int → Mm → Rr) (hk45 : ∀ (x1 x2 x3 : Int) (hx1 : inR x1) (hx2 : inR x2) (hx3 : inR x3) (M : Mm), k45 x1 x2 x3 M = some (r, M9) → VJ LR w X 6 1 r M9 M [(0, .ref (wa w 0)), (1, .int (i32 x1)), (2, .int (i32 x2)), (3, .int (i32 x3))] [] 45) (k56 : Int → Int → Int → Int → Mm → Rr) (hk56 : ∀ (x1 x2 x3 x4 : Int) (hx1 : inR x1) (hx2 : inR x2) (hx3 : inR x3) (hx4 : inR x4) (M : Mm), k56 x1 x2 x3 x4 M = some (r, M9) → VJ LR w X 6 1 r M9 M [(0, .ref (wa w 0)), (1, .int (i32 x1)), (2, .int (i32 x2)), (3, .int (i32 x3)), (4, .int (i32 x4))] [] 56) (x1 x2 x3 x4 : Int) (hx1 : inR x1) (hx2 : inR x2) (hx3 : inR x3) (hx4 : inR x4) (M : Mm) (hF : f_m_around_155 n k45 k56 x1 x2 x3 x4 M = some (r, M9)) : VJ LR w X 6 1 r M9 M [(0, .ref (wa w 0)), (1, .int (i32 x1)), (2, .int (i32 x2)), (3, .int (i32 x3)), (4, .int (i32 x4))] [] 155 := by
  have G := G0.1
  unfold f_m_around_155 at hF
  refine vj_iinc G (p9 := 4) (n := 1) (lv2 := [(4, .int (i32 (w32 (x4 + 1)))), (0, .ref (wa w 0)), (1, .int (i32 x1)), (2, .int (i32 x2)), (3, .int (i32 x3))]) d_m_around_155 rfl (by decide) rfl ?_
  refine vj_goto G (tgt := 56) d_m_around_158 (by decide) ?_
  refine vj_sub [1, 2, 3, 4, 0] rfl ?_
  exact hk56 x1 x2 x3 (w32 (x4 + 1)) hx1 hx2 hx3 (ir_w _) _ hF
set_option maxHeartbeats 4000000 in
set_option maxRecDepth 100000 in
theorem wk_m_around_149 {w : Wd} {X : Cx} {r : Int} {M9 : Mm} (G0 : Gx LR w X "WhoRulesModel" b_m_around 6 0 0 (some .int)) (n : Nat) (k45 : Int → Int → Int → Mm → Rr) (hk45 : ∀ (x1 x2 x3 : Int) (hx1 : inR x1) (hx2 : inR x2) (hx3 : inR x3) (M : Mm), k45 x1 x2 x3 M = some (r, M9) → VJ LR w X 6 1 r M9 M [(0, .ref (wa w 0)), (1, .int (i32 x1)), (2, .int (i32 x2)), (3, .int (i32 x3))] [] 45) (k56 : Int → Int → Int → Int → Mm → Rr) (hk56 : ∀ (x1 x2 x3 x4 : Int) (hx1 : inR x1) (hx2 : inR x2) (hx3 : inR x3) (hx4 : inR x4) (M : Mm), k56 x1 x2 x3 x4 M = some (r, M9) → VJ LR w X 6 1 r M9 M [(0, .ref (wa w 0)), (1, .int (i32 x1)), (2, .int (i32 x2)), (3, .int (i32 x3)), (4, .int (i32 x4))] [] 56) (k83 : Int → Int → Int → Int → Int → Mm → Rr) (hk83 : ∀ (x1 x2 x3 x4 x5 : Int) (hx1 : inR x1) (hx2 : inR x2) (hx3 : inR x3) (hx4 : inR x4) (hx5 : inR x5) (M : Mm), k83 x1 x2 x3 x4 x5 M = some (r, M9) → VJ LR w X 6 1 r M9 M [(0, .ref (wa w 0)), (1, .int (i32 x1)), (2, .int (i32 x2)), (3, .int (i32 x3)), (4, .int (i32 x4)), (5, .int (i32 x5))] [] 83) (x1 x2 x3 x4 x5 : Int) (hx1 : inR x1) (hx2 : inR x2) (hx3 : inR x3) (hx4 : inR x4) (hx5 : inR x5) (M : Mm) (hF : f_m_around_149 n k45 k56 k83 x1 x2 x3 x4 x5 M = some (r, M9)) : VJ LR w X 6 1 r M9 M [(0, .ref (wa w 0)), (1, .int (i32 x1)), (2, .int (i32 x2)), (3, .int (i32 x3)), (4, .int (i32 x4)), (5, .int (i32 x5))] [] 149 := by
  have G := G0.1
  unfold f_m_around_149 at hF
  refine vj_iinc G (p9 := 5) (n := 1) (lv2 := [(5, .int (i32 (w32 (x5 + 1)))), (0, .ref (wa w 0)), (1, .int (i32 x1)), (2, .int (i32 x2)), (3, .int (i32 x3)), (4, .int (i32 x4))]) d_m_around_149 rfl (by decide) rfl ?_
  refine vj_goto G (tgt := 83) d_m_around_152 (by decide) ?_
  refine vj_sub [1, 2, 3, 4, 5, 0] rfl ?_
  exact hk83 x1 x2 x3 x4 (w32 (x5 + 1)) hx1 hx2 hx3 hx4 (ir_w _) _ hF
set_option maxHeartbeats 4000000 in
set_option maxRecDepth 100000 in
theorem wk_m_around_141 {w : Wd} {X : Cx} {r : Int} {M9 : Mm} (G0 : Gx LR w X "WhoRulesModel" b_m_around 6 0 0 (some .int)) (n : Nat) (k45 : Int → Int → Int → Mm → Rr) (hk45 : ∀ (x1 x2 x3 : Int) (hx1 : inR x1) (hx2 : inR x2) (hx3 : inR x3) (M : Mm), k45 x1 x2 x3 M = some (r, M9) → VJ LR w X 6 1 r M9 M [(0, .ref (wa w 0)), (1, .int (i32 x1)), (2, .int (i32 x2)), (3, .int (i32 x3))] [] 45) (k56 : Int → Int → Int → Int → Mm → Rr) (hk56 : ∀ (x1 x2 x3 x4 : Int) (hx1 : inR x1) (hx2 : inR x2) (hx3 : inR x3) (hx4 : inR x4) (M : Mm), k56 x1 x2 x3 x4 M = some (r, M9) → VJ LR w X 6 1 r M9 M [(0, .ref (wa w 0)), (1, .int (i32 x1)), (2, .int (i32 x2)), (3, .int (i32 x3)), (4, .int (i32 x4))] [] 56) (k83 : Int → Int → Int → Int → Int → Mm → Rr) (hk83 : ∀ (x1 x2 x3 x4 x5 : Int) (hx1 : inR x1) (hx2 : inR x2) (hx3 : inR x3) (hx4 : inR x4) (hx5 : inR x5) (M : Mm), k83 x1 x2 x3 x4 x5 M = some (r, M9) → VJ LR w X 6 1 r M9 M [(0, .ref (wa w 0)), (1, .int (i32 x1)), (2, .int (i32 x2)), (3, .int (i32 x3)), (4, .int (i32 x4)), (5, .int (i32 x5))] [] 83) (x1 x2 x3 x4 x5 : Int) (hx1 : inR x1) (hx2 : inR x2) (hx3 : inR x3) (hx4 : inR x4) (hx5 : inR x5) (M : Mm) (hF : f_m_around_141 n k45 k56 k83 x1 x2 x3 x4 x5 M = some (r, M9)) : VJ LR w X 6 1 r M9 M [(0, .ref (wa w 0)), (1, .int (i32 x1)), (2, .int (i32 x2)), (3, .int (i32 x3)), (4, .int (i32 x4)), (5, .int (i32 x5))] [] 141 := by
  have G := G0.1
  unfold f_m_around_141 at hF
  refine vj_aload_n G (p9 := 0) d_m_around_141 rfl rfl ?_
  refine gfR_m_219 G d_m_around_142 ?_
  refine vj_iload G (p9 := 4) d_m_around_145 rfl ?_
  refine vj_iload_n G (p9 := 3) d_m_around_147 rfl rfl ?_
  obtain ⟨c1, hF⟩ := ck_some hF
  refine vj_iast G (x := x4) lkR_44 (by decide) (by decide) (by decide) c1 hx3 d_m_around_148 ?_
  exact wk_m_around_149 G0 n k45 hk45 k56 hk56 k83 hk83 x1 x2 x3 x4 x5 hx1 hx2 hx3 hx4 hx5 _ hF
set_option maxHeartbeats 4000000 in
set_option maxRecDepth 100000 in
theorem wk_m_around_83 {w : Wd} {X : Cx} {r : Int} {M9 : Mm} (G0 : Gx LR w X "WhoRulesModel" b_m_around 6 0 0 (some .int)) (n : Nat) (k45 : Int → Int → Int → Mm → Rr) (hk45 : ∀ (x1 x2 x3 : Int) (hx1 : inR x1) (hx2 : inR x2) (hx3 : inR x3) (M : Mm), k45 x1 x2 x3 M = some (r, M9) → VJ LR w X 6 1 r M9 M [(0, .ref (wa w 0)), (1, .int (i32 x1)), (2, .int (i32 x2)), (3, .int (i32 x3))] [] 45) (k56 : Int → Int → Int → Int → Mm → Rr) (hk56 : ∀ (x1 x2 x3 x4 : Int) (hx1 : inR x1) (hx2 : inR x2) (hx3 : inR x3) (hx4 : inR x4) (M : Mm), k56 x1 x2 x3 x4 M = some (r, M9) → VJ LR w X 6 1 r M9 M [(0, .ref (wa w 0)), (1, .int (i32 x1)), (2, .int (i32 x2)), (3, .int (i32 x3)), (4, .int (i32 x4))] [] 56) (k83 : Int → Int → Int → Int → Int → Mm → Rr) (hk83 : ∀ (x1 x2 x3 x4 x5 : Int) (hx1 : inR x1) (hx2 : inR x2) (hx3 : inR x3) (hx4 : inR x4) (hx5 : inR x5) (M : Mm), k83 x1 x2 x3 x4 x5 M = some (r, M9) → VJ LR w X 6 1 r M9 M [(0, .ref (wa w 0)), (1, .int (i32 x1)), (2, .int (i32 x2)), (3, .int (i32 x3)), (4, .int (i32 x4)), (5, .int (i32 x5))] [] 83) (x1 x2 x3 x4 x5 : Int) (hx1 : inR x1) (hx2 : inR x2) (hx3 : inR x3) (hx4 : inR x4) (hx5 : inR x5) (M : Mm) (hF : f_m_around_83 n k45 k56 k83 x1 x2 x3 x4 x5 M = some (r, M9)) : VJ LR w X 6 1 r M9 M [(0, .ref (wa w 0)), (1, .int (i32 x1)), (2, .int (i32 x2)), (3, .int (i32 x3)), (4, .int (i32 x4)), (5, .int (i32 x5))] [] 83 := by
  have G := G0.1
  unfold f_m_around_83 at hF
  refine vj_iload G (p9 := 5) d_m_around_83 rfl ?_
  refine vj_aload_n G (p9 := 0) d_m_around_85 rfl rfl ?_
  refine gfR_m_13 G d_m_around_86 ?_
  refine vj_mr (fun hM1 => ?_)
  refine vj_icmp_ge G (tgt := 155) d_m_around_89 (by decide) hx5 (mr_o hM1 lkR_0 flR_0_1) (fun c2 => ?_) (fun c2 => ?_)
  · rw [if_pos c2] at hF
    refine vj_sub [0, 1, 2, 3, 4] rfl ?_
    exact wk_m_around_155 G0 n k45 hk45 k56 hk56 x1 x2 x3 x4 hx1 hx2 hx3 hx4 _ hF
  · rw [if_neg c2] at hF
    refine vj_aload_n G (p9 := 0) d_m_around_92 rfl rfl ?_
    refine gfR_m_216 G d_m_around_93 ?_
    refine vj_iload G (p9 := 4) d_m_around_96 rfl ?_
    obtain ⟨c3, hF⟩ := ck_some hF
    refine vj_iald G (x := x4) lkR_43 (by decide) c3 d_m_around_98 ?_
    refine vj_mr (fun hM4 => ?_)
    refine vj_iload G (p9 := 5) d_m_around_99 rfl ?_
    refine vj_ishr G d_m_around_101 ?_
    refine vj_iconst G (v := 1) d_m_around_102 rfl ?_
    refine vj_iand G d_m_around_103 ?_
    refine vj_iconst G (v := 1) d_m_around_104 rfl ?_
    refine vj_icmp_ne G (tgt := 149) d_m_around_105 (by decide) (ir_an _ _) ic_1 (fun c5 => ?_) (fun c5 => ?_)
    · rw [if_pos c5] at hF
      exact wk_m_around_149 G0 n k45 hk45 k56 hk56 k83 hk83 x1 x2 x3 x4 x5 hx1 hx2 hx3 hx4 hx5 _ hF
    · rw [if_neg c5] at hF
      refine vj_iload_n G (p9 := 3) d_m_around_108 rfl rfl ?_
      refine vj_iconst G (v := 1) d_m_around_109 rfl ?_
      refine vj_icmp_ne G (tgt := 122) d_m_around_110 (by decide) hx3 ic_1 (fun c6 => ?_) (fun c6 => ?_)
      · rw [if_pos c6] at hF
        refine vj_iload G (p9 := 5) d_m_around_122 rfl ?_
        refine vj_iload_n G (p9 := 1) d_m_around_124 rfl rfl ?_
        refine vj_icmp_le G (tgt := 149) d_m_around_125 (by decide) hx5 hx1 (fun c7 => ?_) (fun c7 => ?_)
        · rw [if_pos c7] at hF
          exact wk_m_around_149 G0 n k45 hk45 k56 hk56 k83 hk83 x1 x2 x3 x4 x5 hx1 hx2 hx3 hx4 hx5 _ hF
        · rw [if_neg c7] at hF
          refine vj_aload_n G (p9 := 0) d_m_around_128 rfl rfl ?_
          refine gfR_m_219 G d_m_around_129 ?_
          refine vj_iload G (p9 := 5) d_m_around_132 rfl ?_
          obtain ⟨c8, hF⟩ := ck_some hF
          refine vj_iald G (x := x5) lkR_44 (by decide) c8 d_m_around_134 ?_
          refine vj_mr (fun hM9 => ?_)
          refine vj_iload_n G (p9 := 3) d_m_around_135 rfl rfl ?_
          refine vj_iconst G (v := 1) d_m_around_136 rfl ?_
          refine vj_isub G d_m_around_137 ?_
          refine vj_icmp_ne G (tgt := 149) d_m_around_138 (by decide) (mr_a hM9 lkR_44) (ir_w _) (fun c10 => ?_) (fun c10 => ?_)
          · rw [if_pos c10] at hF
            exact wk_m_around_149 G0 n k45 hk45 k56 hk56 k83 hk83 x1 x2 x3 x4 x5 hx1 hx2 hx3 hx4 hx5 _ hF
          · rw [if_neg c10] at hF
            exact wk_m_around_141 G0 n k45 hk45 k56 hk56 k83 hk83 x1 x2 x3 x4 x5 hx1 hx2 hx3 hx4 hx5 _ hF
      · rw [if_neg c6] at hF
        refine vj_iload G (p9 := 5) d_m_around_113 rfl ?_
        refine vj_iload_n G (p9 := 1) d_m_around_115 rfl rfl ?_
        refine vj_icmp_ne G (tgt := 149) d_m_around_116 (by decide) hx5 hx1 (fun c11 => ?_) (fun c11 => ?_)
        · rw [if_pos c11] at hF
          exact wk_m_around_149 G0 n k45 hk45 k56 hk56 k83 hk83 x1 x2 x3 x4 x5 hx1 hx2 hx3 hx4 hx5 _ hF
        · rw [if_neg c11] at hF
          refine vj_goto G (tgt := 141) d_m_around_119 (by decide) ?_
          exact wk_m_around_141 G0 n k45 hk45 k56 hk56 k83 hk83 x1 x2 x3 x4 x5 hx1 hx2 hx3 hx4 hx5 _ hF
set_option maxHeartbeats 4000000 in
set_option maxRecDepth 100000 in
theorem wl_m_around_83 {w : Wd} {X : Cx} {r : Int} {M9 : Mm} (G0 : Gx LR w X "WhoRulesModel" b_m_around 6 0 0 (some .int)) (n : Nat) (k45 : Int → Int → Int → Mm → Rr) (hk45 : ∀ (x1 x2 x3 : Int) (hx1 : inR x1) (hx2 : inR x2) (hx3 : inR x3) (M : Mm), k45 x1 x2 x3 M = some (r, M9) → VJ LR w X 6 1 r M9 M [(0, .ref (wa w 0)), (1, .int (i32 x1)), (2, .int (i32 x2)), (3, .int (i32 x3))] [] 45) (k56 : Int → Int → Int → Int → Mm → Rr) (hk56 : ∀ (x1 x2 x3 x4 : Int) (hx1 : inR x1) (hx2 : inR x2) (hx3 : inR x3) (hx4 : inR x4) (M : Mm), k56 x1 x2 x3 x4 M = some (r, M9) → VJ LR w X 6 1 r M9 M [(0, .ref (wa w 0)), (1, .int (i32 x1)), (2, .int (i32 x2)), (3, .int (i32 x3)), (4, .int (i32 x4))] [] 56) : ∀ (f : Nat) (x1 x2 x3 x4 x5 : Int) (hx1 : inR x1) (hx2 : inR x2) (hx3 : inR x3) (hx4 : inR x4) (hx5 : inR x5) (M : Mm), lp_m_around_83 n k45 k56 f x1 x2 x3 x4 x5 M = some (r, M9) → VJ LR w X 6 1 r M9 M [(0, .ref (wa w 0)), (1, .int (i32 x1)), (2, .int (i32 x2)), (3, .int (i32 x3)), (4, .int (i32 x4)), (5, .int (i32 x5))] [] 83 := by
  intro f
  induction f with
  | zero => intro x1 x2 x3 x4 x5 hx1 hx2 hx3 hx4 hx5 M hF; cases hF
  | succ f ih => intro x1 x2 x3 x4 x5 hx1 hx2 hx3 hx4 hx5 M hF; exact wk_m_around_83 G0 n k45 hk45 k56 hk56 (lp_m_around_83 n k45 k56 f) ih x1 x2 x3 x4 x5 hx1 hx2 hx3 hx4 hx5 M hF
set_option maxHeartbeats 4000000 in
set_option maxRecDepth 100000 in
theorem wk_m_around_56 {w : Wd} {X : Cx} {r : Int} {M9 : Mm} (G0 : Gx LR w X "WhoRulesModel" b_m_around 6 0 0 (some .int)) (n : Nat) (k45 : Int → Int → Int → Mm → Rr) (hk45 : ∀ (x1 x2 x3 : Int) (hx1 : inR x1) (hx2 : inR x2) (hx3 : inR x3) (M : Mm), k45 x1 x2 x3 M = some (r, M9) → VJ LR w X 6 1 r M9 M [(0, .ref (wa w 0)), (1, .int (i32 x1)), (2, .int (i32 x2)), (3, .int (i32 x3))] [] 45) (k56 : Int → Int → Int → Int → Mm → Rr) (hk56 : ∀ (x1 x2 x3 x4 : Int) (hx1 : inR x1) (hx2 : inR x2) (hx3 : inR x3) (hx4 : inR x4) (M : Mm), k56 x1 x2 x3 x4 M = some (r, M9) → VJ LR w X 6 1 r M9 M [(0, .ref (wa w 0)), (1, .int (i32 x1)), (2, .int (i32 x2)), (3, .int (i32 x3)), (4, .int (i32 x4))] [] 56) (x1 x2 x3 x4 : Int) (hx1 : inR x1) (hx2 : inR x2) (hx3 : inR x3) (hx4 : inR x4) (M : Mm) (hF : f_m_around_56 n k45 k56 x1 x2 x3 x4 M = some (r, M9)) : VJ LR w X 6 1 r M9 M [(0, .ref (wa w 0)), (1, .int (i32 x1)), (2, .int (i32 x2)), (3, .int (i32 x3)), (4, .int (i32 x4))] [] 56 := by
  have G := G0.1
  unfold f_m_around_56 at hF
  refine vj_iload G (p9 := 4) d_m_around_56 rfl ?_
  refine vj_aload_n G (p9 := 0) d_m_around_58 rfl rfl ?_
  refine gfR_m_13 G d_m_around_59 ?_
  refine vj_mr (fun hM1 => ?_)
  refine vj_icmp_ge G (tgt := 161) d_m_around_62 (by decide) hx4 (mr_o hM1 lkR_0 flR_0_1) (fun c2 => ?_) (fun c2 => ?_)
  · rw [if_pos c2] at hF
    refine vj_iinc G (p9 := 3) (n := 1) (lv2 := [(3, .int (i32 (w32 (x3 + 1)))), (0, .ref (wa w 0)), (1, .int (i32 x1)), (2, .int (i32 x2)), (4, .int (i32 x4))]) d_m_around_161 rfl (by decide) rfl ?_
    refine vj_goto G (tgt := 45) d_m_around_164 (by decide) ?_
    refine vj_sub [1, 2, 3, 0] rfl ?_
    exact hk45 x1 x2 (w32 (x3 + 1)) hx1 hx2 (ir_w _) _ hF
  · rw [if_neg c2] at hF
    refine vj_aload_n G (p9 := 0) d_m_around_65 rfl rfl ?_
    refine gfR_m_219 G d_m_around_66 ?_
    refine vj_iload G (p9 := 4) d_m_around_69 rfl ?_
    obtain ⟨c3, hF⟩ := ck_some hF
    refine vj_iald G (x := x4) lkR_44 (by decide) c3 d_m_around_71 ?_
    refine vj_mr (fun hM4 => ?_)
    refine vj_bipush G (v := 99) d_m_around_72 rfl ?_
    refine vj_icmp_eq G (tgt := 80) d_m_around_74 (by decide) (mr_a hM4 lkR_44) ic_99 (fun c5 => ?_) (fun c5 => ?_)
    · rw [if_pos c5] at hF
      refine vj_iload_n G (p9 := 1) d_m_around_80 rfl rfl ?_
      refine vj_istore G (lv2 := [(5, .int (i32 x1)), (0, .ref (wa w 0)), (1, .int (i32 x1)), (2, .int (i32 x2)), (3, .int (i32 x3)), (4, .int (i32 x4))]) d_m_around_81 (by decide) rfl ?_
      refine vj_sub [1, 2, 3, 4, 5, 0] rfl ?_
      exact wl_m_around_83 G0 n k45 hk45 k56 hk56 n x1 x2 x3 x4 x1 hx1 hx2 hx3 hx4 hx1 _ hF
    · rw [if_neg c5] at hF
      refine vj_goto G (tgt := 155) d_m_around_77 (by decide) ?_
      exact wk_m_around_155 G0 n k45 hk45 k56 hk56 x1 x2 x3 x4 hx1 hx2 hx3 hx4 _ hF
set_option maxHeartbeats 4000000 in
set_option maxRecDepth 100000 in
theorem wl_m_around_56 {w : Wd} {X : Cx} {r : Int} {M9 : Mm} (G0 : Gx LR w X "WhoRulesModel" b_m_around 6 0 0 (some .int)) (n : Nat) (k45 : Int → Int → Int → Mm → Rr) (hk45 : ∀ (x1 x2 x3 : Int) (hx1 : inR x1) (hx2 : inR x2) (hx3 : inR x3) (M : Mm), k45 x1 x2 x3 M = some (r, M9) → VJ LR w X 6 1 r M9 M [(0, .ref (wa w 0)), (1, .int (i32 x1)), (2, .int (i32 x2)), (3, .int (i32 x3))] [] 45) : ∀ (f : Nat) (x1 x2 x3 x4 : Int) (hx1 : inR x1) (hx2 : inR x2) (hx3 : inR x3) (hx4 : inR x4) (M : Mm), lp_m_around_56 n k45 f x1 x2 x3 x4 M = some (r, M9) → VJ LR w X 6 1 r M9 M [(0, .ref (wa w 0)), (1, .int (i32 x1)), (2, .int (i32 x2)), (3, .int (i32 x3)), (4, .int (i32 x4))] [] 56 := by
  intro f
  induction f with
  | zero => intro x1 x2 x3 x4 hx1 hx2 hx3 hx4 M hF; cases hF
  | succ f ih => intro x1 x2 x3 x4 hx1 hx2 hx3 hx4 M hF; exact wk_m_around_56 G0 n k45 hk45 (lp_m_around_56 n k45 f) ih x1 x2 x3 x4 hx1 hx2 hx3 hx4 M hF
set_option maxHeartbeats 4000000 in
set_option maxRecDepth 100000 in
theorem wk_m_around_45 {w : Wd} {X : Cx} {r : Int} {M9 : Mm} (G0 : Gx LR w X "WhoRulesModel" b_m_around 6 0 0 (some .int)) (n : Nat) (k45 : Int → Int → Int → Mm → Rr) (hk45 : ∀ (x1 x2 x3 : Int) (hx1 : inR x1) (hx2 : inR x2) (hx3 : inR x3) (M : Mm), k45 x1 x2 x3 M = some (r, M9) → VJ LR w X 6 1 r M9 M [(0, .ref (wa w 0)), (1, .int (i32 x1)), (2, .int (i32 x2)), (3, .int (i32 x3))] [] 45) (x1 x2 x3 : Int) (hx1 : inR x1) (hx2 : inR x2) (hx3 : inR x3) (M : Mm) (hF : f_m_around_45 n k45 x1 x2 x3 M = some (r, M9)) : VJ LR w X 6 1 r M9 M [(0, .ref (wa w 0)), (1, .int (i32 x1)), (2, .int (i32 x2)), (3, .int (i32 x3))] [] 45 := by
  have G := G0.1
  unfold f_m_around_45 at hF
  refine vj_iload_n G (p9 := 3) d_m_around_45 rfl rfl ?_
  refine vj_bipush G (v := 8) d_m_around_46 rfl ?_
  refine vj_icmp_ge G (tgt := 167) d_m_around_48 (by decide) hx3 ic_8 (fun c1 => ?_) (fun c1 => ?_)
  · rw [if_pos c1] at hF
    refine vj_iload_n G (p9 := 1) d_m_around_167 rfl rfl ?_
    refine vj_iconst G (v := 1) d_m_around_168 rfl ?_
    refine vj_iadd G d_m_around_169 ?_
    refine vj_istore_n G (lv2 := [(3, .int (i32 (w32 (x1 + 1)))), (0, .ref (wa w 0)), (1, .int (i32 x1)), (2, .int (i32 x2))]) d_m_around_170 rfl (by decide) rfl ?_
    refine vj_sub [1, 2, 3, 0] rfl ?_
    exact wl_m_around_171 G0 n  n x1 x2 (w32 (x1 + 1)) hx1 hx2 (ir_w _) _ hF
  · rw [if_neg c1] at hF
    refine vj_iload_n G (p9 := 1) d_m_around_51 rfl rfl ?_
    refine vj_iconst G (v := 1) d_m_around_52 rfl ?_
    refine vj_iadd G d_m_around_53 ?_
    refine vj_istore G (lv2 := [(4, .int (i32 (w32 (x1 + 1)))), (0, .ref (wa w 0)), (1, .int (i32 x1)), (2, .int (i32 x2)), (3, .int (i32 x3))]) d_m_around_54 (by decide) rfl ?_
    refine vj_sub [1, 2, 3, 4, 0] rfl ?_
    exact wl_m_around_56 G0 n k45 hk45 n x1 x2 x3 (w32 (x1 + 1)) hx1 hx2 hx3 (ir_w _) _ hF
set_option maxHeartbeats 4000000 in
set_option maxRecDepth 100000 in
theorem wl_m_around_45 {w : Wd} {X : Cx} {r : Int} {M9 : Mm} (G0 : Gx LR w X "WhoRulesModel" b_m_around 6 0 0 (some .int)) (n : Nat) : ∀ (f : Nat) (x1 x2 x3 : Int) (hx1 : inR x1) (hx2 : inR x2) (hx3 : inR x3) (M : Mm), lp_m_around_45 n f x1 x2 x3 M = some (r, M9) → VJ LR w X 6 1 r M9 M [(0, .ref (wa w 0)), (1, .int (i32 x1)), (2, .int (i32 x2)), (3, .int (i32 x3))] [] 45 := by
  intro f
  induction f with
  | zero => intro x1 x2 x3 hx1 hx2 hx3 M hF; cases hF
  | succ f ih => intro x1 x2 x3 hx1 hx2 hx3 M hF; exact wk_m_around_45 G0 n (lp_m_around_45 n f) ih x1 x2 x3 hx1 hx2 hx3 M hF
set_option maxHeartbeats 4000000 in
set_option maxRecDepth 100000 in
theorem wk_m_around_42 {w : Wd} {X : Cx} {r : Int} {M9 : Mm} (G0 : Gx LR w X "WhoRulesModel" b_m_around 6 0 0 (some .int)) (n : Nat) (x1 s0 : Int) (hx1 : inR x1) (hs0 : inR s0) (M : Mm) (hF : f_m_around_42 n x1 s0 M = some (r, M9)) : VJ LR w X 6 1 r M9 M [(0, .ref (wa w 0)), (1, .int (i32 x1))] [.int (i32 s0)] 42 := by
  have G := G0.1
  unfold f_m_around_42 at hF
  refine vj_istore_n G (lv2 := [(2, .int (i32 s0)), (0, .ref (wa w 0)), (1, .int (i32 x1))]) d_m_around_42 rfl (by decide) rfl ?_
  refine vj_iconst G (v := 1) d_m_around_43 rfl ?_
  refine vj_istore_n G (lv2 := [(3, .int (i32 1)), (2, .int (i32 s0)), (0, .ref (wa w 0)), (1, .int (i32 x1))]) d_m_around_44 rfl (by decide) rfl ?_
  refine vj_sub [2, 3, 1, 0] rfl ?_
  exact wl_m_around_45 G0 n  n x1 s0 1 hx1 hs0 ic_1 _ hF
set_option maxHeartbeats 4000000 in
set_option maxRecDepth 100000 in
theorem wk_m_around_2 {w : Wd} {X : Cx} {r : Int} {M9 : Mm} (G0 : Gx LR w X "WhoRulesModel" b_m_around 6 0 0 (some .int)) (n : Nat) (k2 : Int → Int → Mm → Rr) (hk2 : ∀ (x1 x2 : Int) (hx1 : inR x1) (hx2 : inR x2) (M : Mm), k2 x1 x2 M = some (r, M9) → VJ LR w X 6 1 r M9 M [(0, .ref (wa w 0)), (1, .int (i32 x1)), (2, .int (i32 x2))] [] 2) (x1 x2 : Int) (hx1 : inR x1) (hx2 : inR x2) (M : Mm) (hF : f_m_around_2 n k2 x1 x2 M = some (r, M9)) : VJ LR w X 6 1 r M9 M [(0, .ref (wa w 0)), (1, .int (i32 x1)), (2, .int (i32 x2))] [] 2 := by
  have G := G0.1
  unfold f_m_around_2 at hF
  refine vj_iload_n G (p9 := 2) d_m_around_2 rfl rfl ?_
  refine vj_bipush G (v := 16) d_m_around_3 rfl ?_
  refine vj_icmp_ge G (tgt := 22) d_m_around_5 (by decide) hx2 ic_16 (fun c1 => ?_) (fun c1 => ?_)
  · rw [if_pos c1] at hF
    refine vj_aload_n G (p9 := 0) d_m_around_22 rfl rfl ?_
    refine gfR_m_216 G d_m_around_23 ?_
    refine vj_iload_n G (p9 := 1) d_m_around_26 rfl rfl ?_
    obtain ⟨c2, hF⟩ := ck_some hF
    refine vj_iald G (x := x1) lkR_43 (by decide) c2 d_m_around_27 ?_
    refine vj_mr (fun hM3 => ?_)
    refine vj_iload_n G (p9 := 1) d_m_around_28 rfl rfl ?_
    refine vj_ishr G d_m_around_29 ?_
    refine vj_iconst G (v := 1) d_m_around_30 rfl ?_
    refine vj_iand G d_m_around_31 ?_
    refine vj_iconst G (v := 1) d_m_around_32 rfl ?_
    refine vj_icmp_ne G (tgt := 40) d_m_around_33 (by decide) (ir_an _ _) ic_1 (fun c4 => ?_) (fun c4 => ?_)
    · rw [if_pos c4] at hF
      refine vj_bipush G (v := 99) d_m_around_40 rfl ?_
      refine vj_sub [0, 1] rfl ?_
      exact wk_m_around_42 G0 n  x1 99 hx1 ic_99 _ hF
    · rw [if_neg c4] at hF
      refine vj_iconst G (v := 1) d_m_around_36 rfl ?_
      refine vj_goto G (tgt := 42) d_m_around_37 (by decide) ?_
      refine vj_sub [0, 1] rfl ?_
      exact wk_m_around_42 G0 n  x1 1 hx1 ic_1 _ hF
  · rw [if_neg c1] at hF
    refine vj_aload_n G (p9 := 0) d_m_around_8 rfl rfl ?_
    refine gfR_m_219 G d_m_around_9 ?_
    refine vj_iload_n G (p9 := 2) d_m_around_12 rfl rfl ?_
    refine vj_bipush G (v := 99) d_m_around_13 rfl ?_
    obtain ⟨c5, hF⟩ := ck_some hF
    refine vj_iast G (x := x2) lkR_44 (by decide) (by decide) (by decide) c5 ic_99 d_m_around_15 ?_
    refine vj_iinc G (p9 := 2) (n := 1) (lv2 := [(2, .int (i32 (w32 (x2 + 1)))), (0, .ref (wa w 0)), (1, .int (i32 x1))]) d_m_around_16 rfl (by decide) rfl ?_
    refine vj_goto G (tgt := 2) d_m_around_19 (by decide) ?_
    refine vj_sub [1, 2, 0] rfl ?_
    exact hk2 x1 (w32 (x2 + 1)) hx1 (ir_w _) _ hF
set_option maxHeartbeats 4000000 in
set_option maxRecDepth 100000 in
theorem wl_m_around_2 {w : Wd} {X : Cx} {r : Int} {M9 : Mm} (G0 : Gx LR w X "WhoRulesModel" b_m_around 6 0 0 (some .int)) (n : Nat) : ∀ (f : Nat) (x1 x2 : Int) (hx1 : inR x1) (hx2 : inR x2) (M : Mm), lp_m_around_2 n f x1 x2 M = some (r, M9) → VJ LR w X 6 1 r M9 M [(0, .ref (wa w 0)), (1, .int (i32 x1)), (2, .int (i32 x2))] [] 2 := by
  intro f
  induction f with
  | zero => intro x1 x2 hx1 hx2 M hF; cases hF
  | succ f ih => intro x1 x2 hx1 hx2 M hF; exact wk_m_around_2 G0 n (lp_m_around_2 n f) ih x1 x2 hx1 hx2 M hF
set_option maxHeartbeats 4000000 in
set_option maxRecDepth 100000 in
theorem ct_m_around {w : Wd} (hij : ij LR w) (n : Nat) (x1 : Int) (hx1 : inR x1) {M : Mm} {r : Int} {M9 : Mm} (hF : f_m_around n x1 M = some (r, M9)) : Ct LR w y_m_around b_m_around 6 (some .int) 0 0 1 [.ref (wa w 0), .int (i32 x1)] M r M9 := by
  refine Ct.of hij KstR (by decide +kernel) (Nat.le_of_ble_eq_true rfl) (fun X G0 => ?_)
  have G := G0.1
  show VJ LR w X 6 1 r M9 M [(0, .ref (wa w 0)), (1, .int (i32 x1))] [] 0
  unfold f_m_around at hF
  refine vj_iconst G (v := 0) d_m_around_0 rfl ?_
  refine vj_istore_n G (lv2 := [(2, .int (i32 0)), (0, .ref (wa w 0)), (1, .int (i32 x1))]) d_m_around_1 rfl (by decide) rfl ?_
  refine vj_sub [1, 2, 0] rfl ?_
  exact wl_m_around_2 G0 n  n x1 0 hx1 ic_0 _ hF
set_option maxHeartbeats 4000000 in
set_option maxRecDepth 100000 in
theorem wk_m_findRing_125 {w : Wd} {X : Cx} {r : Int} {M9 : Mm} (G0 : Gx LR w X "WhoRulesModel" b_m_findRing 6 1 25 none) (n : Nat) (k7 : Int → Mm → Rr) (hk7 : ∀ (x1 : Int) (hx1 : inR x1) (M : Mm), k7 x1 M = some (r, M9) → VJ LR w X 6 0 r M9 M [(0, .ref (wa w 0)), (1, .int (i32 x1))] [] 7) (x1 : Int) (hx1 : inR x1) (M : Mm) (hF : f_m_findRing_125 n k7 x1 M = some (r, M9)) : VJ LR w X 6 0 r M9 M [(0, .ref (wa w 0)), (1, .int (i32 x1))] [] 125 := by
  have G := G0.1
  unfold f_m_findRing_125 at hF
  refine vj_iinc G (p9 := 1) (n := 1) (lv2 := [(1, .int (i32 (w32 (x1 + 1)))), (0, .ref (wa w 0))]) d_m_findRing_125 rfl (by decide) rfl ?_
  refine vj_goto G (tgt := 7) d_m_findRing_128 (by decide) ?_
  refine vj_sub [1, 0] rfl ?_
  exact hk7 (w32 (x1 + 1)) (ir_w _) _ hF
set_option maxHeartbeats 4000000 in
set_option maxRecDepth 100000 in
theorem wk_m_findRing_101 {w : Wd} {X : Cx} {r : Int} {M9 : Mm} (G0 : Gx LR w X "WhoRulesModel" b_m_findRing 6 1 25 none) (n : Nat) (k7 : Int → Mm → Rr) (hk7 : ∀ (x1 : Int) (hx1 : inR x1) (M : Mm), k7 x1 M = some (r, M9) → VJ LR w X 6 0 r M9 M [(0, .ref (wa w 0)), (1, .int (i32 x1))] [] 7) (k62 : Int → Int → Int → Int → Mm → Rr) (hk62 : ∀ (x1 x2 x3 x4 : Int) (hx1 : inR x1) (hx2 : inR x2) (hx3 : inR x3) (hx4 : inR x4) (M : Mm), k62 x1 x2 x3 x4 M = some (r, M9) → VJ LR w X 6 0 r M9 M [(0, .ref (wa w 0)), (1, .int (i32 x1)), (2, .int (i32 x2)), (3, .int (i32 x3)), (4, .int (i32 x4))] [] 62) (k73 : Int → Int → Int → Int → Int → Mm → Rr) (hk73 : ∀ (x1 x2 x3 x4 x5 : Int) (hx1 : inR x1) (hx2 : inR x2) (hx3 : inR x3) (hx4 : inR x4) (hx5 : inR x5) (M : Mm), k73 x1 x2 x3 x4 x5 M = some (r, M9) → VJ LR w X 6 0 r M9 M [(0, .ref (wa w 0)), (1, .int (i32 x1)), (2, .int (i32 x2)), (3, .int (i32 x3)), (4, .int (i32 x4)), (5, .int (i32 x5))] [] 73) (x1 x2 x3 x4 x5 : Int) (hx1 : inR x1) (hx2 : inR x2) (hx3 : inR x3) (hx4 : inR x4) (hx5 : inR x5) (M : Mm) (hF : f_m_findRing_101 n k7 k62 k73 x1 x2 x3 x4 x5 M = some (r, M9)) : VJ LR w X 6 0 r M9 M [(0, .ref (wa w 0)), (1, .int (i32 x1)), (2, .int (i32 x2)), (3, .int (i32 x3)), (4, .int (i32 x4)), (5, .int (i32 x5))] [] 101 := by
  have G := G0.1
  unfold f_m_findRing_101 at hF
  refine vj_iinc G (p9 := 5) (n := 1) (lv2 := [(5, .int (i32 (w32 (x5 + 1)))), (0, .ref (wa w 0)), (1, .int (i32 x1)), (2, .int (i32 x2)), (3, .int (i32 x3)), (4, .int (i32 x4))]) d_m_findRing_101 rfl (by decide) rfl ?_
  refine vj_goto G (tgt := 73) d_m_findRing_104 (by decide) ?_
  refine vj_sub [1, 2, 3, 4, 5, 0] rfl ?_
  exact hk73 x1 x2 x3 x4 (w32 (x5 + 1)) hx1 hx2 hx3 hx4 (ir_w _) _ hF
set_option maxHeartbeats 4000000 in
set_option maxRecDepth 100000 in
theorem wk_m_findRing_73 {w : Wd} {X : Cx} {r : Int} {M9 : Mm} (G0 : Gx LR w X "WhoRulesModel" b_m_findRing 6 1 25 none) (n : Nat) (k7 : Int → Mm → Rr) (hk7 : ∀ (x1 : Int) (hx1 : inR x1) (M : Mm), k7 x1 M = some (r, M9) → VJ LR w X 6 0 r M9 M [(0, .ref (wa w 0)), (1, .int (i32 x1))] [] 7) (k62 : Int → Int → Int → Int → Mm → Rr) (hk62 : ∀ (x1 x2 x3 x4 : Int) (hx1 : inR x1) (hx2 : inR x2) (hx3 : inR x3) (hx4 : inR x4) (M : Mm), k62 x1 x2 x3 x4 M = some (r, M9) → VJ LR w X 6 0 r M9 M [(0, .ref (wa w 0)), (1, .int (i32 x1)), (2, .int (i32 x2)), (3, .int (i32 x3)), (4, .int (i32 x4))] [] 62) (k73 : Int → Int → Int → Int → Int → Mm → Rr) (hk73 : ∀ (x1 x2 x3 x4 x5 : Int) (hx1 : inR x1) (hx2 : inR x2) (hx3 : inR x3) (hx4 : inR x4) (hx5 : inR x5) (M : Mm), k73 x1 x2 x3 x4 x5 M = some (r, M9) → VJ LR w X 6 0 r M9 M [(0, .ref (wa w 0)), (1, .int (i32 x1)), (2, .int (i32 x2)), (3, .int (i32 x3)), (4, .int (i32 x4)), (5, .int (i32 x5))] [] 73) (x1 x2 x3 x4 x5 : Int) (hx1 : inR x1) (hx2 : inR x2) (hx3 : inR x3) (hx4 : inR x4) (hx5 : inR x5) (M : Mm) (hF : f_m_findRing_73 n k7 k62 k73 x1 x2 x3 x4 x5 M = some (r, M9)) : VJ LR w X 6 0 r M9 M [(0, .ref (wa w 0)), (1, .int (i32 x1)), (2, .int (i32 x2)), (3, .int (i32 x3)), (4, .int (i32 x4)), (5, .int (i32 x5))] [] 73 := by
  have G := G0.1
  unfold f_m_findRing_73 at hF
  refine vj_aload_n G (p9 := 0) d_m_findRing_73 rfl rfl ?_
  refine gfR_m_216 G d_m_findRing_74 ?_
  refine vj_iload_n G (p9 := 3) d_m_findRing_77 rfl rfl ?_
  obtain ⟨c1, hF⟩ := ck_some hF
  refine vj_iald G (x := x3) lkR_43 (by decide) c1 d_m_findRing_78 ?_
  refine vj_mr (fun hM2 => ?_)
  refine vj_iload G (p9 := 5) d_m_findRing_79 rfl ?_
  refine vj_ishr G d_m_findRing_81 ?_
  refine vj_iconst G (v := 1) d_m_findRing_82 rfl ?_
  refine vj_iand G d_m_findRing_83 ?_
  refine vj_if_eq G (tgt := 101) d_m_findRing_84 (by decide) (ir_an _ _) (fun c3 => ?_) (fun c3 => ?_)
  · rw [if_pos c3] at hF
    exact wk_m_findRing_101 G0 n k7 hk7 k62 hk62 k73 hk73 x1 x2 x3 x4 x5 hx1 hx2 hx3 hx4 hx5 _ hF
  · rw [if_neg c3] at hF
    refine vj_aload_n G (p9 := 0) d_m_findRing_87 rfl rfl ?_
    refine gfR_m_219 G d_m_findRing_88 ?_
    refine vj_iload G (p9 := 5) d_m_findRing_91 rfl ?_
    obtain ⟨c4, hF⟩ := ck_some hF
    refine vj_iald G (x := x5) lkR_44 (by decide) c4 d_m_findRing_93 ?_
    refine vj_mr (fun hM5 => ?_)
    refine vj_iload_n G (p9 := 2) d_m_findRing_94 rfl rfl ?_
    refine vj_iload G (p9 := 4) d_m_findRing_95 rfl ?_
    refine vj_isub G d_m_findRing_97 ?_
    refine vj_icmp_eq G (tgt := 107) d_m_findRing_98 (by decide) (mr_a hM5 lkR_44) (ir_w _) (fun c6 => ?_) (fun c6 => ?_)
    · rw [if_pos c6] at hF
      refine vj_aload_n G (p9 := 0) d_m_findRing_107 rfl rfl ?_
      refine gfR_m_222 G d_m_findRing_108 ?_
      refine vj_iload G (p9 := 4) d_m_findRing_111 rfl ?_
      refine vj_iload G (p9 := 5) d_m_findRing_113 rfl ?_
      obtain ⟨c7, hF⟩ := ck_some hF
      refine vj_iast G (x := x4) lkR_45 (by decide) (by decide) (by decide) c7 hx5 d_m_findRing_115 ?_
      refine vj_iload G (p9 := 5) d_m_findRing_116 rfl ?_
      refine vj_istore_n G (lv2 := [(3, .int (i32 x5)), (0, .ref (wa w 0)), (1, .int (i32 x1)), (2, .int (i32 x2)), (4, .int (i32 x4)), (5, .int (i32 x5))]) d_m_findRing_118 rfl (by decide) rfl ?_
      refine vj_iinc G (p9 := 4) (n := 1) (lv2 := [(4, .int (i32 (w32 (x4 + 1)))), (3, .int (i32 x5)), (0, .ref (wa w 0)), (1, .int (i32 x1)), (2, .int (i32 x2)), (5, .int (i32 x5))]) d_m_findRing_119 rfl (by decide) rfl ?_
      refine vj_goto G (tgt := 62) d_m_findRing_122 (by decide) ?_
      refine vj_sub [2, 3, 4, 1, 0] rfl ?_
      exact hk62 x1 x2 x5 (w32 (x4 + 1)) hx1 hx2 hx5 (ir_w _) _ hF
    · rw [if_neg c6] at hF
      exact wk_m_findRing_101 G0 n k7 hk7 k62 hk62 k73 hk73 x1 x2 x3 x4 x5 hx1 hx2 hx3 hx4 hx5 _ hF
set_option maxHeartbeats 4000000 in
set_option maxRecDepth 100000 in
theorem wl_m_findRing_73 {w : Wd} {X : Cx} {r : Int} {M9 : Mm} (G0 : Gx LR w X "WhoRulesModel" b_m_findRing 6 1 25 none) (n : Nat) (k7 : Int → Mm → Rr) (hk7 : ∀ (x1 : Int) (hx1 : inR x1) (M : Mm), k7 x1 M = some (r, M9) → VJ LR w X 6 0 r M9 M [(0, .ref (wa w 0)), (1, .int (i32 x1))] [] 7) (k62 : Int → Int → Int → Int → Mm → Rr) (hk62 : ∀ (x1 x2 x3 x4 : Int) (hx1 : inR x1) (hx2 : inR x2) (hx3 : inR x3) (hx4 : inR x4) (M : Mm), k62 x1 x2 x3 x4 M = some (r, M9) → VJ LR w X 6 0 r M9 M [(0, .ref (wa w 0)), (1, .int (i32 x1)), (2, .int (i32 x2)), (3, .int (i32 x3)), (4, .int (i32 x4))] [] 62) : ∀ (f : Nat) (x1 x2 x3 x4 x5 : Int) (hx1 : inR x1) (hx2 : inR x2) (hx3 : inR x3) (hx4 : inR x4) (hx5 : inR x5) (M : Mm), lp_m_findRing_73 n k7 k62 f x1 x2 x3 x4 x5 M = some (r, M9) → VJ LR w X 6 0 r M9 M [(0, .ref (wa w 0)), (1, .int (i32 x1)), (2, .int (i32 x2)), (3, .int (i32 x3)), (4, .int (i32 x4)), (5, .int (i32 x5))] [] 73 := by
  intro f
  induction f with
  | zero => intro x1 x2 x3 x4 x5 hx1 hx2 hx3 hx4 hx5 M hF; cases hF
  | succ f ih => intro x1 x2 x3 x4 x5 hx1 hx2 hx3 hx4 hx5 M hF; exact wk_m_findRing_73 G0 n k7 hk7 k62 hk62 (lp_m_findRing_73 n k7 k62 f) ih x1 x2 x3 x4 x5 hx1 hx2 hx3 hx4 hx5 M hF
set_option maxHeartbeats 4000000 in
set_option maxRecDepth 100000 in
theorem wk_m_findRing_62 {w : Wd} {X : Cx} {r : Int} {M9 : Mm} (G0 : Gx LR w X "WhoRulesModel" b_m_findRing 6 1 25 none) (n : Nat) (k7 : Int → Mm → Rr) (hk7 : ∀ (x1 : Int) (hx1 : inR x1) (M : Mm), k7 x1 M = some (r, M9) → VJ LR w X 6 0 r M9 M [(0, .ref (wa w 0)), (1, .int (i32 x1))] [] 7) (k62 : Int → Int → Int → Int → Mm → Rr) (hk62 : ∀ (x1 x2 x3 x4 : Int) (hx1 : inR x1) (hx2 : inR x2) (hx3 : inR x3) (hx4 : inR x4) (M : Mm), k62 x1 x2 x3 x4 M = some (r, M9) → VJ LR w X 6 0 r M9 M [(0, .ref (wa w 0)), (1, .int (i32 x1)), (2, .int (i32 x2)), (3, .int (i32 x3)), (4, .int (i32 x4))] [] 62) (x1 x2 x3 x4 : Int) (hx1 : inR x1) (hx2 : inR x2) (hx3 : inR x3) (hx4 : inR x4) (M : Mm) (hF : f_m_findRing_62 n k7 k62 x1 x2 x3 x4 M = some (r, M9)) : VJ LR w X 6 0 r M9 M [(0, .ref (wa w 0)), (1, .int (i32 x1)), (2, .int (i32 x2)), (3, .int (i32 x3)), (4, .int (i32 x4))] [] 62 := by
  have G := G0.1
  unfold f_m_findRing_62 at hF
  refine vj_iload G (p9 := 4) d_m_findRing_62 rfl ?_
  refine vj_iload_n G (p9 := 2) d_m_findRing_64 rfl rfl ?_
  refine vj_icmp_ge G (tgt := 125) d_m_findRing_65 (by decide) hx4 hx2 (fun c1 => ?_) (fun c1 => ?_)
  · rw [if_pos c1] at hF
    refine vj_sub [0, 1] rfl ?_
    exact wk_m_findRing_125 G0 n k7 hk7 x1 hx1 _ hF
  · rw [if_neg c1] at hF
    refine vj_iload_n G (p9 := 1) d_m_findRing_68 rfl rfl ?_
    refine vj_iconst G (v := 1) d_m_findRing_69 rfl ?_
    refine vj_iadd G d_m_findRing_70 ?_
    refine vj_istore G (lv2 := [(5, .int (i32 (w32 (x1 + 1)))), (0, .ref (wa w 0)), (1, .int (i32 x1)), (2, .int (i32 x2)), (3, .int (i32 x3)), (4, .int (i32 x4))]) d_m_findRing_71 (by decide) rfl ?_
    refine vj_sub [1, 2, 3, 4, 5, 0] rfl ?_
    exact wl_m_findRing_73 G0 n k7 hk7 k62 hk62 n x1 x2 x3 x4 (w32 (x1 + 1)) hx1 hx2 hx3 hx4 (ir_w _) _ hF
set_option maxHeartbeats 4000000 in
set_option maxRecDepth 100000 in
theorem wl_m_findRing_62 {w : Wd} {X : Cx} {r : Int} {M9 : Mm} (G0 : Gx LR w X "WhoRulesModel" b_m_findRing 6 1 25 none) (n : Nat) (k7 : Int → Mm → Rr) (hk7 : ∀ (x1 : Int) (hx1 : inR x1) (M : Mm), k7 x1 M = some (r, M9) → VJ LR w X 6 0 r M9 M [(0, .ref (wa w 0)), (1, .int (i32 x1))] [] 7) : ∀ (f : Nat) (x1 x2 x3 x4 : Int) (hx1 : inR x1) (hx2 : inR x2) (hx3 : inR x3) (hx4 : inR x4) (M : Mm), lp_m_findRing_62 n k7 f x1 x2 x3 x4 M = some (r, M9) → VJ LR w X 6 0 r M9 M [(0, .ref (wa w 0)), (1, .int (i32 x1)), (2, .int (i32 x2)), (3, .int (i32 x3)), (4, .int (i32 x4))] [] 62 := by
  intro f
  induction f with
  | zero => intro x1 x2 x3 x4 hx1 hx2 hx3 hx4 M hF; cases hF
  | succ f ih => intro x1 x2 x3 x4 hx1 hx2 hx3 hx4 M hF; exact wk_m_findRing_62 G0 n k7 hk7 (lp_m_findRing_62 n k7 f) ih x1 x2 x3 x4 hx1 hx2 hx3 hx4 M hF
set_option maxHeartbeats 4000000 in
set_option maxRecDepth 100000 in
theorem wk_m_findRing_45 {w : Wd} {X : Cx} {r : Int} {M9 : Mm} (G0 : Gx LR w X "WhoRulesModel" b_m_findRing 6 1 25 none) (n : Nat) (k7 : Int → Mm → Rr) (hk7 : ∀ (x1 : Int) (hx1 : inR x1) (M : Mm), k7 x1 M = some (r, M9) → VJ LR w X 6 0 r M9 M [(0, .ref (wa w 0)), (1, .int (i32 x1))] [] 7) (x1 x2 : Int) (hx1 : inR x1) (hx2 : inR x2) (M : Mm) (hF : f_m_findRing_45 n k7 x1 x2 M = some (r, M9)) : VJ LR w X 6 0 r M9 M [(0, .ref (wa w 0)), (1, .int (i32 x1)), (2, .int (i32 x2))] [] 45 := by
  have G := G0.1
  unfold f_m_findRing_45 at hF
  refine vj_aload_n G (p9 := 0) d_m_findRing_45 rfl rfl ?_
  refine vj_iload_n G (p9 := 2) d_m_findRing_46 rfl rfl ?_
  refine pfR_m_225 G hx2 d_m_findRing_47 ?_
  refine vj_aload_n G (p9 := 0) d_m_findRing_50 rfl rfl ?_
  refine gfR_m_222 G d_m_findRing_51 ?_
  refine vj_iconst G (v := 0) d_m_findRing_54 rfl ?_
  refine vj_iload_n G (p9 := 1) d_m_findRing_55 rfl rfl ?_
  refine vj_iast G (x := 0) lkR_45 (by decide) (by decide) (by decide) ⟨by decide, by decide⟩ hx1 d_m_findRing_56 ?_
  refine vj_iload_n G (p9 := 1) d_m_findRing_57 rfl rfl ?_
  refine vj_istore_n G (lv2 := [(3, .int (i32 x1)), (0, .ref (wa w 0)), (1, .int (i32 x1)), (2, .int (i32 x2))]) d_m_findRing_58 rfl (by decide) rfl ?_
  refine vj_iconst G (v := 1) d_m_findRing_59 rfl ?_
  refine vj_istore G (lv2 := [(4, .int (i32 1)), (3, .int (i32 x1)), (0, .ref (wa w 0)), (1, .int (i32 x1)), (2, .int (i32 x2))]) d_m_findRing_60 (by decide) rfl ?_
  refine vj_sub [2, 3, 4, 1, 0] rfl ?_
  exact wl_m_findRing_62 G0 n k7 hk7 n x1 x2 x1 1 hx1 hx2 hx1 ic_1 _ hF
set_option maxHeartbeats 4000000 in
set_option maxRecDepth 100000 in
theorem wk_m_findRing_7 {w : Wd} {X : Cx} {r : Int} {M9 : Mm} (G0 : Gx LR w X "WhoRulesModel" b_m_findRing 6 1 25 none) (n : Nat) (k7 : Int → Mm → Rr) (hk7 : ∀ (x1 : Int) (hx1 : inR x1) (M : Mm), k7 x1 M = some (r, M9) → VJ LR w X 6 0 r M9 M [(0, .ref (wa w 0)), (1, .int (i32 x1))] [] 7) (x1 : Int) (hx1 : inR x1) (M : Mm) (hF : f_m_findRing_7 n k7 x1 M = some (r, M9)) : VJ LR w X 6 0 r M9 M [(0, .ref (wa w 0)), (1, .int (i32 x1))] [] 7 := by
  have G := G0.1
  unfold f_m_findRing_7 at hF
  refine vj_iload_n G (p9 := 1) d_m_findRing_7 rfl rfl ?_
  refine vj_aload_n G (p9 := 0) d_m_findRing_8 rfl rfl ?_
  refine gfR_m_13 G d_m_findRing_9 ?_
  refine vj_mr (fun hM1 => ?_)
  refine vj_icmp_ge G (tgt := 131) d_m_findRing_12 (by decide) hx1 (mr_o hM1 lkR_0 flR_0_1) (fun c2 => ?_) (fun c2 => ?_)
  · rw [if_pos c2] at hF
    cases hF
    exact vj_vret G0 d_m_findRing_131
  · rw [if_neg c2] at hF
    refine vj_aload_n G (p9 := 0) d_m_findRing_15 rfl rfl ?_
    refine vj_iload_n G (p9 := 1) d_m_findRing_16 rfl rfl ?_
    obtain ⟨r3, M3, e3, hF⟩ := bnd_some hF
    refine vj_callV1 G (ct_m_around (gx_ij G) n x1 hx1 e3) lkR_0 clR_0 rfl q_1855 cq_m_around rfl (by decide) (by decide) (Nat.le_of_ble_eq_true rfl) d_m_findRing_17 rfl (fun hr3 => ?_)
    refine vj_istore_n G (lv2 := [(2, .int (i32 r3)), (0, .ref (wa w 0)), (1, .int (i32 x1))]) d_m_findRing_20 rfl (by decide) rfl ?_
    refine vj_iload_n G (p9 := 0) d_m_findRing_21 rfl rfl ?_
    refine vj_bipush G (v := 7) d_m_findRing_22 rfl ?_
    refine vj_icmp_gt G (tgt := 125) d_m_findRing_24 (by decide) hr3 ic_7 (fun c4 => ?_) (fun c4 => ?_)
    · rw [if_pos c4] at hF
      refine vj_sub [1, 2] rfl ?_
      exact wk_m_findRing_125 G0 n k7 hk7 x1 hx1 _ hF
    · rw [if_neg c4] at hF
      refine vj_aload_n G (p9 := 1) d_m_findRing_27 rfl rfl ?_
      refine gfR_m_225 G d_m_findRing_28 ?_
      refine vj_mr (fun hM5 => ?_)
      refine vj_if_le G (tgt := 45) d_m_findRing_31 (by decide) (mr_o hM5 lkR_0 flR_0_70) (fun c6 => ?_) (fun c6 => ?_)
      · rw [if_pos c6] at hF
        refine vj_sub [1, 2, 0] rfl ?_
        exact wk_m_findRing_45 G0 n k7 hk7 x1 r3 hx1 hr3 _ hF
      · rw [if_neg c6] at hF
        refine vj_iload_n G (p9 := 0) d_m_findRing_34 rfl rfl ?_
        refine vj_aload_n G (p9 := 1) d_m_findRing_35 rfl rfl ?_
        refine gfR_m_225 G d_m_findRing_36 ?_
        refine vj_mr (fun hM7 => ?_)
        refine vj_icmp_lt G (tgt := 45) d_m_findRing_39 (by decide) hr3 (mr_o hM7 lkR_0 flR_0_70) (fun c8 => ?_) (fun c8 => ?_)
        · rw [if_pos c8] at hF
          refine vj_sub [1, 2, 0] rfl ?_
          exact wk_m_findRing_45 G0 n k7 hk7 x1 r3 hx1 hr3 _ hF
        · rw [if_neg c8] at hF
          refine vj_goto G (tgt := 125) d_m_findRing_42 (by decide) ?_
          refine vj_sub [1, 2] rfl ?_
          exact wk_m_findRing_125 G0 n k7 hk7 x1 hx1 _ hF
set_option maxHeartbeats 4000000 in
set_option maxRecDepth 100000 in
theorem wl_m_findRing_7 {w : Wd} {X : Cx} {r : Int} {M9 : Mm} (G0 : Gx LR w X "WhoRulesModel" b_m_findRing 6 1 25 none) (n : Nat) : ∀ (f : Nat) (x1 : Int) (hx1 : inR x1) (M : Mm), lp_m_findRing_7 n f x1 M = some (r, M9) → VJ LR w X 6 0 r M9 M [(0, .ref (wa w 0)), (1, .int (i32 x1))] [] 7 := by
  intro f
  induction f with
  | zero => intro x1 hx1 M hF; cases hF
  | succ f ih => intro x1 hx1 M hF; exact wk_m_findRing_7 G0 n (lp_m_findRing_7 n f) ih x1 hx1 M hF
set_option maxHeartbeats 4000000 in
set_option maxRecDepth 100000 in
theorem ct_m_findRing {w : Wd} (hij : ij LR w) (n : Nat) {M : Mm} {r : Int} {M9 : Mm} (hF : f_m_findRing n  M = some (r, M9)) : Ct LR w y_m_findRing b_m_findRing 6 none 1 25 0 [.ref (wa w 0)] M r M9 := by
  refine Ct.of hij KstR (by decide +kernel) (Nat.le_of_ble_eq_true rfl) (fun X G0 => ?_)
  have G := G0.1
  show VJ LR w X 6 0 r M9 M [(0, .ref (wa w 0))] [] 0
  unfold f_m_findRing at hF
  refine vj_aload_n G (p9 := 0) d_m_findRing_0 rfl rfl ?_
  refine vj_iconst G (v := 0) d_m_findRing_1 rfl ?_
  refine pfR_m_225 G ic_0 d_m_findRing_2 ?_
  refine vj_iconst G (v := 0) d_m_findRing_5 rfl ?_
  refine vj_istore_n G (lv2 := [(1, .int (i32 0)), (0, .ref (wa w 0))]) d_m_findRing_6 rfl (by decide) rfl ?_
  refine vj_sub [1, 0] rfl ?_
  exact wl_m_findRing_7 G0 n  n 0 ic_0 _ hF
set_option maxHeartbeats 4000000 in
set_option maxRecDepth 100000 in
theorem ct_m_ring {w : Wd} (hij : ij LR w) (n : Nat) (x1 : Int) (hx1 : inR x1) {M : Mm} {r : Int} {M9 : Mm} (hF : f_m_ring n x1 M = some (r, M9)) : Ct LR w y_m_ring b_m_ring 2 (some .int) 2 50 1 [.ref (wa w 0), .int (i32 x1)] M r M9 := by
  refine Ct.of hij KstR (by decide +kernel) (Nat.le_of_ble_eq_true rfl) (fun X G0 => ?_)
  have G := G0.1
  show VJ LR w X 2 1 r M9 M [(0, .ref (wa w 0)), (1, .int (i32 x1))] [] 0
  unfold f_m_ring at hF
  refine vj_aload_n G (p9 := 0) d_m_ring_0 rfl rfl ?_
  refine vj_aload_n G (p9 := 0) d_m_ring_1 rfl rfl ?_
  refine gfR_m_7 G d_m_ring_2 ?_
  refine vj_mr (fun hM1 => ?_)
  obtain ⟨r2, M2, e2, hF⟩ := bnd_some hF
  refine vj_callV0 G (ct_m_layOut (gx_ij G) n (M 0 0) (mr_o hM1 lkR_0 flR_0_0) e2) lkR_0 clR_0 rfl q_1676 cq_m_layOut rfl (by decide) (by decide) (Nat.le_of_ble_eq_true rfl) d_m_ring_5 rfl (fun hr2 => ?_)
  refine vj_aload_n G (p9 := 0) d_m_ring_8 rfl rfl ?_
  obtain ⟨r3, M3, e3, hF⟩ := bnd_some hF
  refine vj_callV0 G (ct_m_findInto (gx_ij G) n   e3) lkR_0 clR_0 rfl q_1847 cq_m_findInto rfl (by decide) (by decide) (Nat.le_of_ble_eq_true rfl) d_m_ring_9 rfl (fun hr3 => ?_)
  refine vj_aload_n G (p9 := 0) d_m_ring_12 rfl rfl ?_
  obtain ⟨r4, M4, e4, hF⟩ := bnd_some hF
  refine vj_callV0 G (ct_m_findRing (gx_ij G) n   e4) lkR_0 clR_0 rfl q_1851 cq_m_findRing rfl (by decide) (by decide) (Nat.le_of_ble_eq_true rfl) d_m_ring_13 rfl (fun hr4 => ?_)
  refine vj_iload_n G (p9 := 1) d_m_ring_16 rfl rfl ?_
  refine vj_iconst G (v := (-1)) d_m_ring_17 rfl ?_
  refine vj_icmp_ne G (tgt := 28) d_m_ring_18 (by decide) hx1 ic_m1 (fun c5 => ?_) (fun c5 => ?_)
  · rw [if_pos c5] at hF
    refine vj_aload_n G (p9 := 0) d_m_ring_28 rfl rfl ?_
    refine vj_iload_n G (p9 := 1) d_m_ring_29 rfl rfl ?_
    refine vj_iconst G (v := 0) d_m_ring_30 rfl ?_
    refine vj_aload_n G (p9 := 0) d_m_ring_31 rfl rfl ?_
    refine gfR_m_225 G d_m_ring_32 ?_
    refine vj_mr (fun hM6 => ?_)
    refine vj_iconst G (v := 1) d_m_ring_35 rfl ?_
    refine vj_isub G d_m_ring_36 ?_
    obtain ⟨r7, M7, e7, hF⟩ := bnd_some hF
    refine vj_callV3 G (ct_m_in (gx_ij G) n x1 0 (w32 ((M4 0 70) - 1)) hx1 ic_0 (ir_w _) e7) lkR_0 clR_0 rfl q_1543 cq_m_in rfl (by decide) (by decide) (Nat.le_of_ble_eq_true rfl) d_m_ring_37 rfl (fun hr7 => ?_)
    refine vj_if_eq G (tgt := 52) d_m_ring_40 (by decide) (ir_b hr7) (fun c8 => ?_) (fun c8 => ?_)
    · rw [if_pos c8] at hF
      refine vj_iconst G (v := (-1)) d_m_ring_52 rfl ?_
      cases hF
      exact vj_iret G0 ic_m1 d_m_ring_53
    · rw [if_neg c8] at hF
      refine vj_aload_n G (p9 := 0) d_m_ring_43 rfl rfl ?_
      refine gfR_m_222 G d_m_ring_44 ?_
      refine vj_iload_n G (p9 := 1) d_m_ring_47 rfl rfl ?_
      obtain ⟨c9, hF⟩ := ck_some hF
      refine vj_iald G (x := x1) lkR_45 (by decide) c9 d_m_ring_48 ?_
      refine vj_mr (fun hM10 => ?_)
      refine vj_goto G (tgt := 53) d_m_ring_49 (by decide) ?_
      cases hF
      exact vj_iret G0 (mr_a hM10 lkR_45) d_m_ring_53
  · rw [if_neg c5] at hF
    refine vj_aload_n G (p9 := 0) d_m_ring_21 rfl rfl ?_
    refine gfR_m_225 G d_m_ring_22 ?_
    refine vj_mr (fun hM11 => ?_)
    refine vj_goto G (tgt := 53) d_m_ring_25 (by decide) ?_
    cases hF
    exact vj_iret G0 (mr_o hM11 lkR_0 flR_0_70) d_m_ring_53
set_option maxHeartbeats 4000000 in
set_option maxRecDepth 100000 in
theorem wk_m_hasRing_59 {w : Wd} {X : Cx} {r : Int} {M9 : Mm} (G0 : Gx LR w X "WhoRulesModel" b_m_hasRing 4 0 0 (some .boolean)) (n : Nat) (k11 : Int → Int → Mm → Rr) (hk11 : ∀ (x1 x2 : Int) (hx1 : inR x1) (hx2 : inB x2) (M : Mm), k11 x1 x2 M = some (r, M9) → VJ LR w X 4 3 r M9 M [(0, .ref (wa w 0)), (1, .int (i32 x1)), (2, .int (i32 x2))] [] 11) (k19 : Int → Int → Int → Mm → Rr) (hk19 : ∀ (x1 x2 x3 : Int) (hx1 : inR x1) (hx2 : inB x2) (hx3 : inR x3) (M : Mm), k19 x1 x2 x3 M = some (r, M9) → VJ LR w X 4 3 r M9 M [(0, .ref (wa w 0)), (1, .int (i32 x1)), (2, .int (i32 x2)), (3, .int (i32 x3))] [] 19) (x1 x2 x3 : Int) (hx1 : inR x1) (hx2 : inB x2) (hx3 : inR x3) (M : Mm) (hF : f_m_hasRing_59 n k11 k19 x1 x2 x3 M = some (r, M9)) : VJ LR w X 4 3 r M9 M [(0, .ref (wa w 0)), (1, .int (i32 x1)), (2, .int (i32 x2)), (3, .int (i32 x3))] [] 59 := by
  have G := G0.1
  unfold f_m_hasRing_59 at hF
  refine vj_iinc G (p9 := 3) (n := 1) (lv2 := [(3, .int (i32 (w32 (x3 + 1)))), (0, .ref (wa w 0)), (1, .int (i32 x1)), (2, .int (i32 x2))]) d_m_hasRing_59 rfl (by decide) rfl ?_
  refine vj_goto G (tgt := 19) d_m_hasRing_62 (by decide) ?_
  refine vj_sub [1, 2, 3, 0] rfl ?_
  exact hk19 x1 x2 (w32 (x3 + 1)) hx1 hx2 (ir_w _) _ hF
set_option maxHeartbeats 4000000 in
set_option maxRecDepth 100000 in
theorem wk_m_hasRing_19 {w : Wd} {X : Cx} {r : Int} {M9 : Mm} (G0 : Gx LR w X "WhoRulesModel" b_m_hasRing 4 0 0 (some .boolean)) (n : Nat) (k11 : Int → Int → Mm → Rr) (hk11 : ∀ (x1 x2 : Int) (hx1 : inR x1) (hx2 : inB x2) (M : Mm), k11 x1 x2 M = some (r, M9) → VJ LR w X 4 3 r M9 M [(0, .ref (wa w 0)), (1, .int (i32 x1)), (2, .int (i32 x2))] [] 11) (k19 : Int → Int → Int → Mm → Rr) (hk19 : ∀ (x1 x2 x3 : Int) (hx1 : inR x1) (hx2 : inB x2) (hx3 : inR x3) (M : Mm), k19 x1 x2 x3 M = some (r, M9) → VJ LR w X 4 3 r M9 M [(0, .ref (wa w 0)), (1, .int (i32 x1)), (2, .int (i32 x2)), (3, .int (i32 x3))] [] 19) (x1 x2 x3 : Int) (hx1 : inR x1) (hx2 : inB x2) (hx3 : inR x3) (M : Mm) (hF : f_m_hasRing_19 n k11 k19 x1 x2 x3 M = some (r, M9)) : VJ LR w X 4 3 r M9 M [(0, .ref (wa w 0)), (1, .int (i32 x1)), (2, .int (i32 x2)), (3, .int (i32 x3))] [] 19 := by
  have G := G0.1
  unfold f_m_hasRing_19 at hF
  refine vj_iload_n G (p9 := 3) d_m_hasRing_19 rfl rfl ?_
  refine vj_aload_n G (p9 := 0) d_m_hasRing_20 rfl rfl ?_
  refine gfR_m_13 G d_m_hasRing_21 ?_
  refine vj_mr (fun hM1 => ?_)
  refine vj_icmp_ge G (tgt := 65) d_m_hasRing_24 (by decide) hx3 (mr_o hM1 lkR_0 flR_0_1) (fun c2 => ?_) (fun c2 => ?_)
  · rw [if_pos c2] at hF
    refine vj_goto G (tgt := 11) d_m_hasRing_65 (by decide) ?_
    refine vj_sub [0, 1, 2] rfl ?_
    exact hk11 x1 x2 hx1 hx2 _ hF
  · rw [if_neg c2] at hF
    refine vj_iload_n G (p9 := 1) d_m_hasRing_27 rfl rfl ?_
    refine vj_iload_n G (p9 := 3) d_m_hasRing_28 rfl rfl ?_
    refine vj_ishr G d_m_hasRing_29 ?_
    refine vj_iconst G (v := 1) d_m_hasRing_30 rfl ?_
    refine vj_iand G d_m_hasRing_31 ?_
    refine vj_if_eq G (tgt := 59) d_m_hasRing_32 (by decide) (ir_an _ _) (fun c3 => ?_) (fun c3 => ?_)
    · rw [if_pos c3] at hF
      exact wk_m_hasRing_59 G0 n k11 hk11 k19 hk19 x1 x2 x3 hx1 hx2 hx3 _ hF
    · rw [if_neg c3] at hF
      refine vj_aload_n G (p9 := 0) d_m_hasRing_35 rfl rfl ?_
      refine gfR_m_216 G d_m_hasRing_36 ?_
      refine vj_iload_n G (p9 := 3) d_m_hasRing_39 rfl rfl ?_
      obtain ⟨c4, hF⟩ := ck_some hF
      refine vj_iald G (x := x3) lkR_43 (by decide) c4 d_m_hasRing_40 ?_
      refine vj_mr (fun hM5 => ?_)
      refine vj_iload_n G (p9 := 1) d_m_hasRing_41 rfl rfl ?_
      refine vj_iand G d_m_hasRing_42 ?_
      refine vj_if_eq G (tgt := 49) d_m_hasRing_43 (by decide) (ir_an _ _) (fun c6 => ?_) (fun c6 => ?_)
      · rw [if_pos c6] at hF
        refine vj_iload_n G (p9 := 1) d_m_hasRing_49 rfl rfl ?_
        refine vj_iconst G (v := 1) d_m_hasRing_50 rfl ?_
        refine vj_iload_n G (p9 := 3) d_m_hasRing_51 rfl rfl ?_
        refine vj_ishl G d_m_hasRing_52 ?_
        refine vj_iconst G (v := (-1)) d_m_hasRing_53 rfl ?_
        refine vj_ixor G d_m_hasRing_54 ?_
        refine vj_iand G d_m_hasRing_55 ?_
        refine vj_istore_n G (lv2 := [(1, .int (i32 (ian x1 (ixo (ish 1 x3) (-1))))), (0, .ref (wa w 0)), (2, .int (i32 x2)), (3, .int (i32 x3))]) d_m_hasRing_56 rfl (by decide) rfl ?_
        refine vj_iconst G (v := 1) d_m_hasRing_57 rfl ?_
        refine vj_istore_n G (lv2 := [(2, .int (i32 1)), (1, .int (i32 (ian x1 (ixo (ish 1 x3) (-1))))), (0, .ref (wa w 0)), (3, .int (i32 x3))]) d_m_hasRing_58 rfl (by decide) rfl ?_
        refine vj_sub [2, 1, 0, 3] rfl ?_
        exact wk_m_hasRing_59 G0 n k11 hk11 k19 hk19 (ian x1 (ixo (ish 1 x3) (-1))) 1 x3 (ir_an _ _) (Or.inr rfl) hx3 _ hF
      · rw [if_neg c6] at hF
        refine vj_goto G (tgt := 59) d_m_hasRing_46 (by decide) ?_
        exact wk_m_hasRing_59 G0 n k11 hk11 k19 hk19 x1 x2 x3 hx1 hx2 hx3 _ hF
set_option maxHeartbeats 4000000 in
set_option maxRecDepth 100000 in
theorem wl_m_hasRing_19 {w : Wd} {X : Cx} {r : Int} {M9 : Mm} (G0 : Gx LR w X "WhoRulesModel" b_m_hasRing 4 0 0 (some .boolean)) (n : Nat) (k11 : Int → Int → Mm → Rr) (hk11 : ∀ (x1 x2 : Int) (hx1 : inR x1) (hx2 : inB x2) (M : Mm), k11 x1 x2 M = some (r, M9) → VJ LR w X 4 3 r M9 M [(0, .ref (wa w 0)), (1, .int (i32 x1)), (2, .int (i32 x2))] [] 11) : ∀ (f : Nat) (x1 x2 x3 : Int) (hx1 : inR x1) (hx2 : inB x2) (hx3 : inR x3) (M : Mm), lp_m_hasRing_19 n k11 f x1 x2 x3 M = some (r, M9) → VJ LR w X 4 3 r M9 M [(0, .ref (wa w 0)), (1, .int (i32 x1)), (2, .int (i32 x2)), (3, .int (i32 x3))] [] 19 := by
  intro f
  induction f with
  | zero => intro x1 x2 x3 hx1 hx2 hx3 M hF; cases hF
  | succ f ih => intro x1 x2 x3 hx1 hx2 hx3 M hF; exact wk_m_hasRing_19 G0 n k11 hk11 (lp_m_hasRing_19 n k11 f) ih x1 x2 x3 hx1 hx2 hx3 M hF
set_option maxHeartbeats 4000000 in
set_option maxRecDepth 100000 in
theorem wk_m_hasRing_11 {w : Wd} {X : Cx} {r : Int} {M9 : Mm} (G0 : Gx LR w X "WhoRulesModel" b_m_hasRing 4 0 0 (some .boolean)) (n : Nat) (k11 : Int → Int → Mm → Rr) (hk11 : ∀ (x1 x2 : Int) (hx1 : inR x1) (hx2 : inB x2) (M : Mm), k11 x1 x2 M = some (r, M9) → VJ LR w X 4 3 r M9 M [(0, .ref (wa w 0)), (1, .int (i32 x1)), (2, .int (i32 x2))] [] 11) (x1 x2 : Int) (hx1 : inR x1) (hx2 : inB x2) (M : Mm) (hF : f_m_hasRing_11 n k11 x1 x2 M = some (r, M9)) : VJ LR w X 4 3 r M9 M [(0, .ref (wa w 0)), (1, .int (i32 x1)), (2, .int (i32 x2))] [] 11 := by
  have G := G0.1
  unfold f_m_hasRing_11 at hF
  refine vj_iload_n G (p9 := 2) d_m_hasRing_11 rfl rfl ?_
  refine vj_if_eq G (tgt := 68) d_m_hasRing_12 (by decide) (ir_b hx2) (fun c1 => ?_) (fun c1 => ?_)
  · rw [if_pos c1] at hF
    refine vj_iload_n G (p9 := 1) d_m_hasRing_68 rfl rfl ?_
    refine vj_if_eq G (tgt := 76) d_m_hasRing_69 (by decide) hx1 (fun c2 => ?_) (fun c2 => ?_)
    · rw [if_pos c2] at hF
      refine vj_iconst G (v := 0) d_m_hasRing_76 rfl ?_
      cases hF
      exact vj_zret G0 (Or.inl rfl) d_m_hasRing_77
    · rw [if_neg c2] at hF
      refine vj_iconst G (v := 1) d_m_hasRing_72 rfl ?_
      refine vj_goto G (tgt := 77) d_m_hasRing_73 (by decide) ?_
      cases hF
      exact vj_zret G0 (Or.inr rfl) d_m_hasRing_77
  · rw [if_neg c1] at hF
    refine vj_iconst G (v := 0) d_m_hasRing_15 rfl ?_
    refine vj_istore_n G (lv2 := [(2, .int (i32 0)), (0, .ref (wa w 0)), (1, .int (i32 x1))]) d_m_hasRing_16 rfl (by decide) rfl ?_
    refine vj_iconst G (v := 0) d_m_hasRing_17 rfl ?_
    refine vj_istore_n G (lv2 := [(3, .int (i32 0)), (2, .int (i32 0)), (0, .ref (wa w 0)), (1, .int (i32 x1))]) d_m_hasRing_18 rfl (by decide) rfl ?_
    refine vj_sub [2, 3, 1, 0] rfl ?_
    exact wl_m_hasRing_19 G0 n k11 hk11 n x1 0 0 hx1 (Or.inl rfl) ic_0 _ hF
set_option maxHeartbeats 4000000 in
set_option maxRecDepth 100000 in
theorem wl_m_hasRing_11 {w : Wd} {X : Cx} {r : Int} {M9 : Mm} (G0 : Gx LR w X "WhoRulesModel" b_m_hasRing 4 0 0 (some .boolean)) (n : Nat) : ∀ (f : Nat) (x1 x2 : Int) (hx1 : inR x1) (hx2 : inB x2) (M : Mm), lp_m_hasRing_11 n f x1 x2 M = some (r, M9) → VJ LR w X 4 3 r M9 M [(0, .ref (wa w 0)), (1, .int (i32 x1)), (2, .int (i32 x2))] [] 11 := by
  intro f
  induction f with
  | zero => intro x1 x2 hx1 hx2 M hF; cases hF
  | succ f ih => intro x1 x2 hx1 hx2 M hF; exact wk_m_hasRing_11 G0 n (lp_m_hasRing_11 n f) ih x1 x2 hx1 hx2 M hF
set_option maxHeartbeats 4000000 in
set_option maxRecDepth 100000 in
theorem ct_m_hasRing {w : Wd} (hij : ij LR w) (n : Nat) {M : Mm} {r : Int} {M9 : Mm} (hF : f_m_hasRing n  M = some (r, M9)) : Ct LR w y_m_hasRing b_m_hasRing 4 (some .boolean) 0 0 3 [.ref (wa w 0)] M r M9 := by
  refine Ct.of hij KstR (by decide +kernel) (Nat.le_of_ble_eq_true rfl) (fun X G0 => ?_)
  have G := G0.1
  show VJ LR w X 4 3 r M9 M [(0, .ref (wa w 0))] [] 0
  unfold f_m_hasRing at hF
  refine vj_iconst G (v := 1) d_m_hasRing_0 rfl ?_
  refine vj_aload_n G (p9 := 0) d_m_hasRing_1 rfl rfl ?_
  refine gfR_m_13 G d_m_hasRing_2 ?_
  refine vj_mr (fun hM1 => ?_)
  refine vj_ishl G d_m_hasRing_5 ?_
  refine vj_iconst G (v := 1) d_m_hasRing_6 rfl ?_
  refine vj_isub G d_m_hasRing_7 ?_
  refine vj_istore_n G (lv2 := [(1, .int (i32 (w32 ((ish 1 (M 0 1)) - 1)))), (0, .ref (wa w 0))]) d_m_hasRing_8 rfl (by decide) rfl ?_
  refine vj_iconst G (v := 1) d_m_hasRing_9 rfl ?_
  refine vj_istore_n G (lv2 := [(2, .int (i32 1)), (1, .int (i32 (w32 ((ish 1 (M 0 1)) - 1)))), (0, .ref (wa w 0))]) d_m_hasRing_10 rfl (by decide) rfl ?_
  refine vj_sub [2, 1, 0] rfl ?_
  exact wl_m_hasRing_11 G0 n  n (w32 ((ish 1 (M 0 1)) - 1)) 1 (ir_w _) (Or.inr rfl) _ hF
set_option maxHeartbeats 4000000 in
set_option maxRecDepth 100000 in
theorem wk_m_breaks_243 {w : Wd} {X : Cx} {r : Int} {M9 : Mm} (G0 : Gx LR w X "WhoRulesModel" b_m_breaks 6 2 45 (some .long)) (n : Nat) (k213 : Int → Int → Int → Int → Mm → Rr) (hk213 : ∀ (x1 x2 x3 x5 : Int) (hx1 : inR x1) (hx2 : inR x2) (hx3 : in64 x3) (hx5 : inR x5) (M : Mm), k213 x1 x2 x3 x5 M = some (r, M9) → VJ LR w X 6 2 r M9 M [(0, .ref (wa w 0)), (1, .int (i32 x1)), (2, .int (i32 x2)), (3, .long (i64 x3)), (5, .int (i32 x5))] [] 213) (x1 x2 x5 s0 s1 : Int) (hx1 : inR x1) (hx2 : inR x2) (hx5 : inR x5) (hs0 : in64 s0) (hs1 : in64 s1) (M : Mm) (hF : f_m_breaks_243 n k213 x1 x2 x5 s0 s1 M = some (r, M9)) : VJ LR w X 6 2 r M9 M [(0, .ref (wa w 0)), (1, .int (i32 x1)), (2, .int (i32 x2)), (5, .int (i32 x5))] [.long (i64 s1), .long (i64 s0)] 243 := by
  have G := G0.1
  unfold f_m_breaks_243 at hF
  refine vj_lor G d_m_breaks_243 ?_
  refine vj_lstore_n G (lv2 := [(3, .long (i64 (lor s0 s1))), (0, .ref (wa w 0)), (1, .int (i32 x1)), (2, .int (i32 x2)), (5, .int (i32 x5))]) d_m_breaks_244 rfl (by decide) rfl ?_
  refine vj_iinc G (p9 := 4) (n := 1) (lv2 := [(5, .int (i32 (w32 (x5 + 1)))), (3, .long (i64 (lor s0 s1))), (0, .ref (wa w 0)), (1, .int (i32 x1)), (2, .int (i32 x2))]) d_m_breaks_245 rfl (by decide) rfl ?_
  refine vj_goto G (tgt := 213) d_m_breaks_248 (by decide) ?_
  refine vj_sub [2, 3, 4, 1, 0] rfl ?_
  exact hk213 x1 x2 (lor s0 s1) (w32 (x5 + 1)) hx1 hx2 (lr_or _ _) (ir_w _) _ hF
set_option maxHeartbeats 4000000 in
set_option maxRecDepth 100000 in
theorem wk_m_breaks_213 {w : Wd} {X : Cx} {r : Int} {M9 : Mm} (G0 : Gx LR w X "WhoRulesModel" b_m_breaks 6 2 45 (some .long)) (n : Nat) (k213 : Int → Int → Int → Int → Mm → Rr) (hk213 : ∀ (x1 x2 x3 x5 : Int) (hx1 : inR x1) (hx2 : inR x2) (hx3 : in64 x3) (hx5 : inR x5) (M : Mm), k213 x1 x2 x3 x5 M = some (r, M9) → VJ LR w X 6 2 r M9 M [(0, .ref (wa w 0)), (1, .int (i32 x1)), (2, .int (i32 x2)), (3, .long (i64 x3)), (5, .int (i32 x5))] [] 213) (x1 x2 x3 x5 : Int) (hx1 : inR x1) (hx2 : inR x2) (hx3 : in64 x3) (hx5 : inR x5) (M : Mm) (hF : f_m_breaks_213 n k213 x1 x2 x3 x5 M = some (r, M9)) : VJ LR w X 6 2 r M9 M [(0, .ref (wa w 0)), (1, .int (i32 x1)), (2, .int (i32 x2)), (3, .long (i64 x3)), (5, .int (i32 x5))] [] 213 := by
  have G := G0.1
  unfold f_m_breaks_213 at hF
  refine vj_iload G (p9 := 4) d_m_breaks_213 rfl ?_
  refine vj_iload_n G (p9 := 1) d_m_breaks_215 rfl rfl ?_
  refine vj_icmp_ge G (tgt := 251) d_m_breaks_216 (by decide) hx5 hx1 (fun c1 => ?_) (fun c1 => ?_)
  · rw [if_pos c1] at hF
    refine vj_lload_n G (p9 := 3) d_m_breaks_251 rfl rfl ?_
    cases hF
    exact vj_lret G0 hx3 d_m_breaks_252
  · rw [if_neg c1] at hF
    refine vj_lload_n G (p9 := 3) d_m_breaks_219 rfl rfl ?_
    refine vj_iload_n G (p9 := 2) d_m_breaks_220 rfl rfl ?_
    refine vj_iload G (p9 := 4) d_m_breaks_221 rfl ?_
    refine vj_ishr G d_m_breaks_223 ?_
    refine vj_iconst G (v := 1) d_m_breaks_224 rfl ?_
    refine vj_iand G d_m_breaks_225 ?_
    refine vj_iconst G (v := 1) d_m_breaks_226 rfl ?_
    refine vj_icmp_ne G (tgt := 242) d_m_breaks_227 (by decide) (ir_an _ _) ic_1 (fun c2 => ?_) (fun c2 => ?_)
    · rw [if_pos c2] at hF
      refine vj_lconst G (v := 0) d_m_breaks_242 rfl ?_
      refine vj_sub [0, 1, 2, 4] rfl ?_
      exact wk_m_breaks_243 G0 n k213 hk213 x1 x2 x5 x3 0 hx1 hx2 hx5 hx3 (lr_i ic_0) _ hF
    · rw [if_neg c2] at hF
      refine vj_lconst G (v := 1) d_m_breaks_230 rfl ?_
      refine vj_aload_n G (p9 := 0) d_m_breaks_231 rfl rfl ?_
      refine gfR_m_188 G d_m_breaks_232 ?_
      refine vj_iload G (p9 := 4) d_m_breaks_235 rfl ?_
      obtain ⟨c3, hF⟩ := ck_some hF
      refine vj_iald G (x := x5) lkR_38 (by decide) c3 d_m_breaks_237 ?_
      refine vj_mr (fun hM4 => ?_)
      refine vj_lshl G d_m_breaks_238 ?_
      refine vj_goto G (tgt := 243) d_m_breaks_239 (by decide) ?_
      refine vj_sub [0, 1, 2, 4] rfl ?_
      exact wk_m_breaks_243 G0 n k213 hk213 x1 x2 x5 x3 (lsh 1 (M 38 x5.toNat)) hx1 hx2 hx5 hx3 (lr_sh _ _) _ hF
set_option maxHeartbeats 4000000 in
set_option maxRecDepth 100000 in
theorem wl_m_breaks_213 {w : Wd} {X : Cx} {r : Int} {M9 : Mm} (G0 : Gx LR w X "WhoRulesModel" b_m_breaks 6 2 45 (some .long)) (n : Nat) : ∀ (f : Nat) (x1 x2 x3 x5 : Int) (hx1 : inR x1) (hx2 : inR x2) (hx3 : in64 x3) (hx5 : inR x5) (M : Mm), lp_m_breaks_213 n f x1 x2 x3 x5 M = some (r, M9) → VJ LR w X 6 2 r M9 M [(0, .ref (wa w 0)), (1, .int (i32 x1)), (2, .int (i32 x2)), (3, .long (i64 x3)), (5, .int (i32 x5))] [] 213 := by
  intro f
  induction f with
  | zero => intro x1 x2 x3 x5 hx1 hx2 hx3 hx5 M hF; cases hF
  | succ f ih => intro x1 x2 x3 x5 hx1 hx2 hx3 hx5 M hF; exact wk_m_breaks_213 G0 n (lp_m_breaks_213 n f) ih x1 x2 x3 x5 hx1 hx2 hx3 hx5 M hF
set_option maxHeartbeats 4000000 in
set_option maxRecDepth 100000 in
theorem wk_m_breaks_202 {w : Wd} {X : Cx} {r : Int} {M9 : Mm} (G0 : Gx LR w X "WhoRulesModel" b_m_breaks 6 2 45 (some .long)) (n : Nat) (k86 : Int → Int → Int → Mm → Rr) (hk86 : ∀ (x1 x2 x3 : Int) (hx1 : inR x1) (hx2 : inR x2) (hx3 : inR x3) (M : Mm), k86 x1 x2 x3 M = some (r, M9) → VJ LR w X 6 2 r M9 M [(0, .ref (wa w 0)), (1, .int (i32 x1)), (2, .int (i32 x2)), (3, .int (i32 x3))] [] 86) (x1 x2 x3 : Int) (hx1 : inR x1) (hx2 : inR x2) (hx3 : inR x3) (M : Mm) (hF : f_m_breaks_202 n k86 x1 x2 x3 M = some (r, M9)) : VJ LR w X 6 2 r M9 M [(0, .ref (wa w 0)), (1, .int (i32 x1)), (2, .int (i32 x2)), (3, .int (i32 x3))] [] 202 := by
  have G := G0.1
  unfold f_m_breaks_202 at hF
  refine vj_iinc G (p9 := 3) (n := 1) (lv2 := [(3, .int (i32 (w32 (x3 + 1)))), (0, .ref (wa w 0)), (1, .int (i32 x1)), (2, .int (i32 x2))]) d_m_breaks_202 rfl (by decide) rfl ?_
  refine vj_goto G (tgt := 86) d_m_breaks_205 (by decide) ?_
  refine vj_sub [1, 2, 3, 0] rfl ?_
  exact hk86 x1 x2 (w32 (x3 + 1)) hx1 hx2 (ir_w _) _ hF
set_option maxHeartbeats 4000000 in
set_option maxRecDepth 100000 in
theorem wk_m_breaks_187 {w : Wd} {X : Cx} {r : Int} {M9 : Mm} (G0 : Gx LR w X "WhoRulesModel" b_m_breaks 6 2 45 (some .long)) (n : Nat) (k86 : Int → Int → Int → Mm → Rr) (hk86 : ∀ (x1 x2 x3 : Int) (hx1 : inR x1) (hx2 : inR x2) (hx3 : inR x3) (M : Mm), k86 x1 x2 x3 M = some (r, M9) → VJ LR w X 6 2 r M9 M [(0, .ref (wa w 0)), (1, .int (i32 x1)), (2, .int (i32 x2)), (3, .int (i32 x3))] [] 86) (k138 : Int → Int → Int → Int → Mm → Rr) (hk138 : ∀ (x1 x2 x3 x4 : Int) (hx1 : inR x1) (hx2 : inR x2) (hx3 : inR x3) (hx4 : inR x4) (M : Mm), k138 x1 x2 x3 x4 M = some (r, M9) → VJ LR w X 6 2 r M9 M [(0, .ref (wa w 0)), (1, .int (i32 x1)), (2, .int (i32 x2)), (3, .int (i32 x3)), (4, .int (i32 x4))] [] 138) (x1 x2 x3 x4 : Int) (hx1 : inR x1) (hx2 : inR x2) (hx3 : inR x3) (hx4 : inR x4) (M : Mm) (hF : f_m_breaks_187 n k86 k138 x1 x2 x3 x4 M = some (r, M9)) : VJ LR w X 6 2 r M9 M [(0, .ref (wa w 0)), (1, .int (i32 x1)), (2, .int (i32 x2)), (3, .int (i32 x3)), (4, .int (i32 x4))] [] 187 := by
  have G := G0.1
  unfold f_m_breaks_187 at hF
  refine vj_iinc G (p9 := 4) (n := 1) (lv2 := [(4, .int (i32 (w32 (x4 + 1)))), (0, .ref (wa w 0)), (1, .int (i32 x1)), (2, .int (i32 x2)), (3, .int (i32 x3))]) d_m_breaks_187 rfl (by decide) rfl ?_
  refine vj_goto G (tgt := 138) d_m_breaks_190 (by decide) ?_
  refine vj_sub [1, 2, 3, 4, 0] rfl ?_
  exact hk138 x1 x2 x3 (w32 (x4 + 1)) hx1 hx2 hx3 (ir_w _) _ hF
set_option maxHeartbeats 4000000 in
set_option maxRecDepth 100000 in
theorem wk_m_breaks_138 {w : Wd} {X : Cx} {r : Int} {M9 : Mm} (G0 : Gx LR w X "WhoRulesModel" b_m_breaks 6 2 45 (some .long)) (n : Nat) (k86 : Int → Int → Int → Mm → Rr) (hk86 : ∀ (x1 x2 x3 : Int) (hx1 : inR x1) (hx2 : inR x2) (hx3 : inR x3) (M : Mm), k86 x1 x2 x3 M = some (r, M9) → VJ LR w X 6 2 r M9 M [(0, .ref (wa w 0)), (1, .int (i32 x1)), (2, .int (i32 x2)), (3, .int (i32 x3))] [] 86) (k138 : Int → Int → Int → Int → Mm → Rr) (hk138 : ∀ (x1 x2 x3 x4 : Int) (hx1 : inR x1) (hx2 : inR x2) (hx3 : inR x3) (hx4 : inR x4) (M : Mm), k138 x1 x2 x3 x4 M = some (r, M9) → VJ LR w X 6 2 r M9 M [(0, .ref (wa w 0)), (1, .int (i32 x1)), (2, .int (i32 x2)), (3, .int (i32 x3)), (4, .int (i32 x4))] [] 138) (x1 x2 x3 x4 : Int) (hx1 : inR x1) (hx2 : inR x2) (hx3 : inR x3) (hx4 : inR x4) (M : Mm) (hF : f_m_breaks_138 n k86 k138 x1 x2 x3 x4 M = some (r, M9)) : VJ LR w X 6 2 r M9 M [(0, .ref (wa w 0)), (1, .int (i32 x1)), (2, .int (i32 x2)), (3, .int (i32 x3)), (4, .int (i32 x4))] [] 138 := by
  have G := G0.1
  unfold f_m_breaks_138 at hF
  refine vj_iload G (p9 := 4) d_m_breaks_138 rfl ?_
  refine vj_iload_n G (p9 := 1) d_m_breaks_140 rfl rfl ?_
  refine vj_icmp_ge G (tgt := 193) d_m_breaks_141 (by decide) hx4 hx1 (fun c1 => ?_) (fun c1 => ?_)
  · rw [if_pos c1] at hF
    refine vj_aload_n G (p9 := 0) d_m_breaks_193 rfl rfl ?_
    obtain ⟨r2, M2, e2, hF⟩ := bnd_some hF
    refine vj_callV3 G (ct_m_hasRing (gx_ij G) n   e2) lkR_0 clR_0 rfl q_1863 cq_m_hasRing rfl (by decide) (by decide) (Nat.le_of_ble_eq_true rfl) d_m_breaks_194 rfl (fun hr2 => ?_)
    refine vj_if_ne G (tgt := 202) d_m_breaks_197 (by decide) (ir_b hr2) (fun c3 => ?_) (fun c3 => ?_)
    · rw [if_pos c3] at hF
      refine vj_sub [0, 1, 2, 3] rfl ?_
      exact wk_m_breaks_202 G0 n k86 hk86 x1 x2 x3 hx1 hx2 hx3 _ hF
    · rw [if_neg c3] at hF
      refine vj_iload_n G (p9 := 3) d_m_breaks_200 rfl rfl ?_
      refine vj_istore_n G (lv2 := [(2, .int (i32 x3)), (0, .ref (wa w 0)), (1, .int (i32 x1)), (3, .int (i32 x3)), (4, .int (i32 x4))]) d_m_breaks_201 rfl (by decide) rfl ?_
      refine vj_sub [1, 2, 0, 3] rfl ?_
      exact wk_m_breaks_202 G0 n k86 hk86 x1 x3 x3 hx1 hx3 hx3 _ hF
  · rw [if_neg c1] at hF
    refine vj_iload_n G (p9 := 3) d_m_breaks_144 rfl rfl ?_
    refine vj_iload G (p9 := 4) d_m_breaks_145 rfl ?_
    refine vj_ishr G d_m_breaks_147 ?_
    refine vj_iconst G (v := 1) d_m_breaks_148 rfl ?_
    refine vj_iand G d_m_breaks_149 ?_
    refine vj_if_ne G (tgt := 187) d_m_breaks_150 (by decide) (ir_an _ _) (fun c4 => ?_) (fun c4 => ?_)
    · rw [if_pos c4] at hF
      exact wk_m_breaks_187 G0 n k86 hk86 k138 hk138 x1 x2 x3 x4 hx1 hx2 hx3 hx4 _ hF
    · rw [if_neg c4] at hF
      refine vj_aload_n G (p9 := 0) d_m_breaks_153 rfl rfl ?_
      refine gfR_m_216 G d_m_breaks_154 ?_
      refine vj_aload_n G (p9 := 0) d_m_breaks_157 rfl rfl ?_
      refine gfR_m_130 G d_m_breaks_158 ?_
      refine vj_aload_n G (p9 := 0) d_m_breaks_161 rfl rfl ?_
      refine gfR_m_188 G d_m_breaks_162 ?_
      refine vj_iload G (p9 := 4) d_m_breaks_165 rfl ?_
      obtain ⟨c5, hF⟩ := ck_some hF
      refine vj_iald G (x := x4) lkR_38 (by decide) c5 d_m_breaks_167 ?_
      refine vj_mr (fun hM6 => ?_)
      obtain ⟨c7, hF⟩ := ck_some hF
      refine vj_iald G (x := (M 38 x4.toNat)) lkR_22 (by decide) c7 d_m_breaks_168 ?_
      refine vj_dup2_11 G d_m_breaks_169 rfl rfl ?_
      obtain ⟨c8, hF⟩ := ck_some hF
      refine vj_iald G (x := (M 22 (M 38 x4.toNat).toNat)) lkR_43 (by decide) c8 d_m_breaks_170 ?_
      refine vj_iconst G (v := 1) d_m_breaks_171 rfl ?_
      refine vj_aload_n G (p9 := 0) d_m_breaks_172 rfl rfl ?_
      refine gfR_m_32 G d_m_breaks_173 ?_
      refine vj_aload_n G (p9 := 0) d_m_breaks_176 rfl rfl ?_
      refine gfR_m_188 G d_m_breaks_177 ?_
      refine vj_iload G (p9 := 4) d_m_breaks_180 rfl ?_
      obtain ⟨c9, hF⟩ := ck_some hF
      refine vj_iald G (x := x4) lkR_38 (by decide) c9 d_m_breaks_182 ?_
      obtain ⟨c10, hF⟩ := ck_some hF
      refine vj_iald G (x := (M 38 x4.toNat)) lkR_3 (by decide) c10 d_m_breaks_183 ?_
      refine vj_ishl G d_m_breaks_184 ?_
      refine vj_ior G d_m_breaks_185 ?_
      obtain ⟨c11, hF⟩ := ck_some hF
      refine vj_iast G (x := (M 22 (M 38 x4.toNat).toNat)) lkR_43 (by decide) (by decide) (by decide) c11 (ir_or _ _) d_m_breaks_186 ?_
      exact wk_m_breaks_187 G0 n k86 hk86 k138 hk138 x1 x2 x3 x4 hx1 hx2 hx3 hx4 _ hF
set_option maxHeartbeats 4000000 in
set_option maxRecDepth 100000 in
theorem wl_m_breaks_138 {w : Wd} {X : Cx} {r : Int} {M9 : Mm} (G0 : Gx LR w X "WhoRulesModel" b_m_breaks 6 2 45 (some .long)) (n : Nat) (k86 : Int → Int → Int → Mm → Rr) (hk86 : ∀ (x1 x2 x3 : Int) (hx1 : inR x1) (hx2 : inR x2) (hx3 : inR x3) (M : Mm), k86 x1 x2 x3 M = some (r, M9) → VJ LR w X 6 2 r M9 M [(0, .ref (wa w 0)), (1, .int (i32 x1)), (2, .int (i32 x2)), (3, .int (i32 x3))] [] 86) : ∀ (f : Nat) (x1 x2 x3 x4 : Int) (hx1 : inR x1) (hx2 : inR x2) (hx3 : inR x3) (hx4 : inR x4) (M : Mm), lp_m_breaks_138 n k86 f x1 x2 x3 x4 M = some (r, M9) → VJ LR w X 6 2 r M9 M [(0, .ref (wa w 0)), (1, .int (i32 x1)), (2, .int (i32 x2)), (3, .int (i32 x3)), (4, .int (i32 x4))] [] 138 := by
  intro f
  induction f with
  | zero => intro x1 x2 x3 x4 hx1 hx2 hx3 hx4 M hF; cases hF
  | succ f ih => intro x1 x2 x3 x4 hx1 hx2 hx3 hx4 M hF; exact wk_m_breaks_138 G0 n k86 hk86 (lp_m_breaks_138 n k86 f) ih x1 x2 x3 x4 hx1 hx2 hx3 hx4 M hF
set_option maxHeartbeats 4000000 in
set_option maxRecDepth 100000 in
theorem wk_m_breaks_114 {w : Wd} {X : Cx} {r : Int} {M9 : Mm} (G0 : Gx LR w X "WhoRulesModel" b_m_breaks 6 2 45 (some .long)) (n : Nat) (k86 : Int → Int → Int → Mm → Rr) (hk86 : ∀ (x1 x2 x3 : Int) (hx1 : inR x1) (hx2 : inR x2) (hx3 : inR x3) (M : Mm), k86 x1 x2 x3 M = some (r, M9) → VJ LR w X 6 2 r M9 M [(0, .ref (wa w 0)), (1, .int (i32 x1)), (2, .int (i32 x2)), (3, .int (i32 x3))] [] 86) (k114 : Int → Int → Int → Int → Mm → Rr) (hk114 : ∀ (x1 x2 x3 x4 : Int) (hx1 : inR x1) (hx2 : inR x2) (hx3 : inR x3) (hx4 : inR x4) (M : Mm), k114 x1 x2 x3 x4 M = some (r, M9) → VJ LR w X 6 2 r M9 M [(0, .ref (wa w 0)), (1, .int (i32 x1)), (2, .int (i32 x2)), (3, .int (i32 x3)), (4, .int (i32 x4))] [] 114) (x1 x2 x3 x4 : Int) (hx1 : inR x1) (hx2 : inR x2) (hx3 : inR x3) (hx4 : inR x4) (M : Mm) (hF : f_m_breaks_114 n k86 k114 x1 x2 x3 x4 M = some (r, M9)) : VJ LR w X 6 2 r M9 M [(0, .ref (wa w 0)), (1, .int (i32 x1)), (2, .int (i32 x2)), (3, .int (i32 x3)), (4, .int (i32 x4))] [] 114 := by
  have G := G0.1
  unfold f_m_breaks_114 at hF
  refine vj_iload G (p9 := 4) d_m_breaks_114 rfl ?_
  refine vj_bipush G (v := 16) d_m_breaks_116 rfl ?_
  refine vj_icmp_ge G (tgt := 135) d_m_breaks_118 (by decide) hx4 ic_16 (fun c1 => ?_) (fun c1 => ?_)
  · rw [if_pos c1] at hF
    refine vj_iconst G (v := 0) d_m_breaks_135 rfl ?_
    refine vj_istore G (lv2 := [(4, .int (i32 0)), (0, .ref (wa w 0)), (1, .int (i32 x1)), (2, .int (i32 x2)), (3, .int (i32 x3))]) d_m_breaks_136 (by decide) rfl ?_
    refine vj_sub [1, 2, 3, 4, 0] rfl ?_
    exact wl_m_breaks_138 G0 n k86 hk86 n x1 x2 x3 0 hx1 hx2 hx3 ic_0 _ hF
  · rw [if_neg c1] at hF
    refine vj_aload_n G (p9 := 0) d_m_breaks_121 rfl rfl ?_
    refine gfR_m_216 G d_m_breaks_122 ?_
    refine vj_iload G (p9 := 4) d_m_breaks_125 rfl ?_
    refine vj_iconst G (v := 0) d_m_breaks_127 rfl ?_
    obtain ⟨c2, hF⟩ := ck_some hF
    refine vj_iast G (x := x4) lkR_43 (by decide) (by decide) (by decide) c2 ic_0 d_m_breaks_128 ?_
    refine vj_iinc G (p9 := 4) (n := 1) (lv2 := [(4, .int (i32 (w32 (x4 + 1)))), (0, .ref (wa w 0)), (1, .int (i32 x1)), (2, .int (i32 x2)), (3, .int (i32 x3))]) d_m_breaks_129 rfl (by decide) rfl ?_
    refine vj_goto G (tgt := 114) d_m_breaks_132 (by decide) ?_
    refine vj_sub [1, 2, 3, 4, 0] rfl ?_
    exact hk114 x1 x2 x3 (w32 (x4 + 1)) hx1 hx2 hx3 (ir_w _) _ hF
set_option maxHeartbeats 4000000 in
set_option maxRecDepth 100000 in
theorem wl_m_breaks_114 {w : Wd} {X : Cx} {r : Int} {M9 : Mm} (G0 : Gx LR w X "WhoRulesModel" b_m_breaks 6 2 45 (some .long)) (n : Nat) (k86 : Int → Int → Int → Mm → Rr) (hk86 : ∀ (x1 x2 x3 : Int) (hx1 : inR x1) (hx2 : inR x2) (hx3 : inR x3) (M : Mm), k86 x1 x2 x3 M = some (r, M9) → VJ LR w X 6 2 r M9 M [(0, .ref (wa w 0)), (1, .int (i32 x1)), (2, .int (i32 x2)), (3, .int (i32 x3))] [] 86) : ∀ (f : Nat) (x1 x2 x3 x4 : Int) (hx1 : inR x1) (hx2 : inR x2) (hx3 : inR x3) (hx4 : inR x4) (M : Mm), lp_m_breaks_114 n k86 f x1 x2 x3 x4 M = some (r, M9) → VJ LR w X 6 2 r M9 M [(0, .ref (wa w 0)), (1, .int (i32 x1)), (2, .int (i32 x2)), (3, .int (i32 x3)), (4, .int (i32 x4))] [] 114 := by
  intro f
  induction f with
  | zero => intro x1 x2 x3 x4 hx1 hx2 hx3 hx4 M hF; cases hF
  | succ f ih => intro x1 x2 x3 x4 hx1 hx2 hx3 hx4 M hF; exact wk_m_breaks_114 G0 n k86 hk86 (lp_m_breaks_114 n k86 f) ih x1 x2 x3 x4 hx1 hx2 hx3 hx4 M hF
set_option maxHeartbeats 4000000 in
set_option maxRecDepth 100000 in
theorem wk_m_breaks_86 {w : Wd} {X : Cx} {r : Int} {M9 : Mm} (G0 : Gx LR w X "WhoRulesModel" b_m_breaks 6 2 45 (some .long)) (n : Nat) (k86 : Int → Int → Int → Mm → Rr) (hk86 : ∀ (x1 x2 x3 : Int) (hx1 : inR x1) (hx2 : inR x2) (hx3 : inR x3) (M : Mm), k86 x1 x2 x3 M = some (r, M9) → VJ LR w X 6 2 r M9 M [(0, .ref (wa w 0)), (1, .int (i32 x1)), (2, .int (i32 x2)), (3, .int (i32 x3))] [] 86) (x1 x2 x3 : Int) (hx1 : inR x1) (hx2 : inR x2) (hx3 : inR x3) (M : Mm) (hF : f_m_breaks_86 n k86 x1 x2 x3 M = some (r, M9)) : VJ LR w X 6 2 r M9 M [(0, .ref (wa w 0)), (1, .int (i32 x1)), (2, .int (i32 x2)), (3, .int (i32 x3))] [] 86 := by
  have G := G0.1
  unfold f_m_breaks_86 at hF
  refine vj_iload_n G (p9 := 3) d_m_breaks_86 rfl rfl ?_
  refine vj_iconst G (v := 1) d_m_breaks_87 rfl ?_
  refine vj_iload_n G (p9 := 1) d_m_breaks_88 rfl rfl ?_
  refine vj_ishl G d_m_breaks_89 ?_
  refine vj_icmp_ge G (tgt := 208) d_m_breaks_90 (by decide) hx3 (ir_sh _ _) (fun c1 => ?_) (fun c1 => ?_)
  · rw [if_pos c1] at hF
    refine vj_lconst G (v := 0) d_m_breaks_208 rfl ?_
    refine vj_lstore_n G (lv2 := [(3, .long (i64 0)), (0, .ref (wa w 0)), (1, .int (i32 x1)), (2, .int (i32 x2))]) d_m_breaks_209 rfl (by decide) rfl ?_
    refine vj_iconst G (v := 0) d_m_breaks_210 rfl ?_
    refine vj_istore G (lv2 := [(5, .int (i32 0)), (3, .long (i64 0)), (0, .ref (wa w 0)), (1, .int (i32 x1)), (2, .int (i32 x2))]) d_m_breaks_211 (by decide) rfl ?_
    refine vj_sub [2, 3, 4, 1, 0] rfl ?_
    exact wl_m_breaks_213 G0 n  n x1 x2 0 0 hx1 hx2 (lr_i ic_0) ic_0 _ hF
  · rw [if_neg c1] at hF
    refine vj_aload_n G (p9 := 0) d_m_breaks_93 rfl rfl ?_
    refine vj_iload_n G (p9 := 3) d_m_breaks_94 rfl rfl ?_
    refine vj_i2l G d_m_breaks_95 hx3 ?_
    obtain ⟨r2, M2, e2, hF⟩ := bnd_some hF
    refine vj_callV1 G (ct_m_ones (gx_ij G) n x3 (lr_i hx3) e2) lkR_0 clR_0 rfl q_1802 cq_m_ones rfl (by decide) (by decide) (Nat.le_of_ble_eq_true rfl) d_m_breaks_96 rfl (fun hr2 => ?_)
    refine vj_aload_n G (p9 := 0) d_m_breaks_99 rfl rfl ?_
    refine vj_iload_n G (p9 := 2) d_m_breaks_100 rfl rfl ?_
    refine vj_i2l G d_m_breaks_101 hx2 ?_
    obtain ⟨r3, M3, e3, hF⟩ := bnd_some hF
    refine vj_callV1 G (ct_m_ones (gx_ij G) n x2 (lr_i hx2) e3) lkR_0 clR_0 rfl q_1802 cq_m_ones rfl (by decide) (by decide) (Nat.le_of_ble_eq_true rfl) d_m_breaks_102 rfl (fun hr3 => ?_)
    refine vj_icmp_lt G (tgt := 111) d_m_breaks_105 (by decide) hr2 hr3 (fun c4 => ?_) (fun c4 => ?_)
    · rw [if_pos c4] at hF
      refine vj_iconst G (v := 0) d_m_breaks_111 rfl ?_
      refine vj_istore G (lv2 := [(4, .int (i32 0)), (0, .ref (wa w 0)), (1, .int (i32 x1)), (2, .int (i32 x2)), (3, .int (i32 x3))]) d_m_breaks_112 (by decide) rfl ?_
      refine vj_sub [1, 2, 3, 4, 0] rfl ?_
      exact wl_m_breaks_114 G0 n k86 hk86 n x1 x2 x3 0 hx1 hx2 hx3 ic_0 _ hF
    · rw [if_neg c4] at hF
      refine vj_goto G (tgt := 202) d_m_breaks_108 (by decide) ?_
      exact wk_m_breaks_202 G0 n k86 hk86 x1 x2 x3 hx1 hx2 hx3 _ hF
set_option maxHeartbeats 4000000 in
set_option maxRecDepth 100000 in
theorem wl_m_breaks_86 {w : Wd} {X : Cx} {r : Int} {M9 : Mm} (G0 : Gx LR w X "WhoRulesModel" b_m_breaks 6 2 45 (some .long)) (n : Nat) : ∀ (f : Nat) (x1 x2 x3 : Int) (hx1 : inR x1) (hx2 : inR x2) (hx3 : inR x3) (M : Mm), lp_m_breaks_86 n f x1 x2 x3 M = some (r, M9) → VJ LR w X 6 2 r M9 M [(0, .ref (wa w 0)), (1, .int (i32 x1)), (2, .int (i32 x2)), (3, .int (i32 x3))] [] 86 := by
  intro f
  induction f with
  | zero => intro x1 x2 x3 hx1 hx2 hx3 M hF; cases hF
  | succ f ih => intro x1 x2 x3 hx1 hx2 hx3 M hF; exact wk_m_breaks_86 G0 n (lp_m_breaks_86 n f) ih x1 x2 x3 hx1 hx2 hx3 M hF
set_option maxHeartbeats 4000000 in
set_option maxRecDepth 100000 in
theorem wk_m_breaks_78 {w : Wd} {X : Cx} {r : Int} {M9 : Mm} (G0 : Gx LR w X "WhoRulesModel" b_m_breaks 6 2 45 (some .long)) (n : Nat) (x1 : Int) (hx1 : inR x1) (M : Mm) (hF : f_m_breaks_78 n x1 M = some (r, M9)) : VJ LR w X 6 2 r M9 M [(0, .ref (wa w 0)), (1, .int (i32 x1))] [] 78 := by
  have G := G0.1
  unfold f_m_breaks_78 at hF
  refine vj_iconst G (v := 1) d_m_breaks_78 rfl ?_
  refine vj_iload_n G (p9 := 1) d_m_breaks_79 rfl rfl ?_
  refine vj_ishl G d_m_breaks_80 ?_
  refine vj_iconst G (v := 1) d_m_breaks_81 rfl ?_
  refine vj_isub G d_m_breaks_82 ?_
  refine vj_istore_n G (lv2 := [(2, .int (i32 (w32 ((ish 1 x1) - 1)))), (0, .ref (wa w 0)), (1, .int (i32 x1))]) d_m_breaks_83 rfl (by decide) rfl ?_
  refine vj_iconst G (v := 0) d_m_breaks_84 rfl ?_
  refine vj_istore_n G (lv2 := [(3, .int (i32 0)), (2, .int (i32 (w32 ((ish 1 x1) - 1)))), (0, .ref (wa w 0)), (1, .int (i32 x1))]) d_m_breaks_85 rfl (by decide) rfl ?_
  refine vj_sub [2, 3, 1, 0] rfl ?_
  exact wl_m_breaks_86 G0 n  n x1 (w32 ((ish 1 x1) - 1)) 0 hx1 (ir_w _) ic_0 _ hF
set_option maxHeartbeats 4000000 in
set_option maxRecDepth 100000 in
theorem wk_m_breaks_72 {w : Wd} {X : Cx} {r : Int} {M9 : Mm} (G0 : Gx LR w X "WhoRulesModel" b_m_breaks 6 2 45 (some .long)) (n : Nat) (k12 : Int → Int → Mm → Rr) (hk12 : ∀ (x1 x2 : Int) (hx1 : inR x1) (hx2 : inR x2) (M : Mm), k12 x1 x2 M = some (r, M9) → VJ LR w X 6 2 r M9 M [(0, .ref (wa w 0)), (1, .int (i32 x1)), (2, .int (i32 x2))] [] 12) (x1 x2 : Int) (hx1 : inR x1) (hx2 : inR x2) (M : Mm) (hF : f_m_breaks_72 n k12 x1 x2 M = some (r, M9)) : VJ LR w X 6 2 r M9 M [(0, .ref (wa w 0)), (1, .int (i32 x1)), (2, .int (i32 x2))] [] 72 := by
  have G := G0.1
  unfold f_m_breaks_72 at hF
  refine vj_iinc G (p9 := 2) (n := 1) (lv2 := [(2, .int (i32 (w32 (x2 + 1)))), (0, .ref (wa w 0)), (1, .int (i32 x1))]) d_m_breaks_72 rfl (by decide) rfl ?_
  refine vj_goto G (tgt := 12) d_m_breaks_75 (by decide) ?_
  refine vj_sub [1, 2, 0] rfl ?_
  exact hk12 x1 (w32 (x2 + 1)) hx1 (ir_w _) _ hF
set_option maxHeartbeats 4000000 in
set_option maxRecDepth 100000 in
theorem wk_m_breaks_12 {w : Wd} {X : Cx} {r : Int} {M9 : Mm} (G0 : Gx LR w X "WhoRulesModel" b_m_breaks 6 2 45 (some .long)) (n : Nat) (k12 : Int → Int → Mm → Rr) (hk12 : ∀ (x1 x2 : Int) (hx1 : inR x1) (hx2 : inR x2) (M : Mm), k12 x1 x2 M = some (r, M9) → VJ LR w X 6 2 r M9 M [(0, .ref (wa w 0)), (1, .int (i32 x1)), (2, .int (i32 x2))] [] 12) (x1 x2 : Int) (hx1 : inR x1) (hx2 : inR x2) (M : Mm) (hF : f_m_breaks_12 n k12 x1 x2 M = some (r, M9)) : VJ LR w X 6 2 r M9 M [(0, .ref (wa w 0)), (1, .int (i32 x1)), (2, .int (i32 x2))] [] 12 := by
  have G := G0.1
  unfold f_m_breaks_12 at hF
  refine vj_iload_n G (p9 := 2) d_m_breaks_12 rfl rfl ?_
  refine vj_aload_n G (p9 := 0) d_m_breaks_13 rfl rfl ?_
  refine gfR_m_19 G d_m_breaks_14 ?_
  refine vj_mr (fun hM1 => ?_)
  refine vj_icmp_ge G (tgt := 78) d_m_breaks_17 (by decide) hx2 (mr_o hM1 lkR_0 flR_0_3) (fun c2 => ?_) (fun c2 => ?_)
  · rw [if_pos c2] at hF
    refine vj_sub [0, 1] rfl ?_
    exact wk_m_breaks_78 G0 n  x1 hx1 _ hF
  · rw [if_neg c2] at hF
    refine vj_iload_n G (p9 := 1) d_m_breaks_20 rfl rfl ?_
    refine vj_bipush G (v := 12) d_m_breaks_21 rfl ?_
    refine vj_icmp_ge G (tgt := 78) d_m_breaks_23 (by decide) hx1 ic_12 (fun c3 => ?_) (fun c3 => ?_)
    · rw [if_pos c3] at hF
      refine vj_sub [0, 1] rfl ?_
      exact wk_m_breaks_78 G0 n  x1 hx1 _ hF
    · rw [if_neg c3] at hF
      refine vj_aload_n G (p9 := 0) d_m_breaks_26 rfl rfl ?_
      refine gfR_m_38 G d_m_breaks_27 ?_
      refine vj_iload_n G (p9 := 2) d_m_breaks_30 rfl rfl ?_
      obtain ⟨c4, hF⟩ := ck_some hF
      refine vj_iald G (x := x2) lkR_5 (by decide) c4 d_m_breaks_31 ?_
      refine vj_mr (fun hM5 => ?_)
      refine vj_if_eq G (tgt := 72) d_m_breaks_32 (by decide) (mr_a hM5 lkR_5) (fun c6 => ?_) (fun c6 => ?_)
      · rw [if_pos c6] at hF
        exact wk_m_breaks_72 G0 n k12 hk12 x1 x2 hx1 hx2 _ hF
      · rw [if_neg c6] at hF
        refine vj_aload_n G (p9 := 0) d_m_breaks_35 rfl rfl ?_
        refine gfR_m_130 G d_m_breaks_36 ?_
        refine vj_iload_n G (p9 := 2) d_m_breaks_39 rfl rfl ?_
        obtain ⟨c7, hF⟩ := ck_some hF
        refine vj_iald G (x := x2) lkR_22 (by decide) c7 d_m_breaks_40 ?_
        refine vj_mr (fun hM8 => ?_)
        refine vj_if_lt G (tgt := 72) d_m_breaks_41 (by decide) (mr_a hM8 lkR_22) (fun c9 => ?_) (fun c9 => ?_)
        · rw [if_pos c9] at hF
          exact wk_m_breaks_72 G0 n k12 hk12 x1 x2 hx1 hx2 _ hF
        · rw [if_neg c9] at hF
          refine vj_aload_n G (p9 := 0) d_m_breaks_44 rfl rfl ?_
          refine gfR_m_25 G d_m_breaks_45 ?_
          refine vj_aload_n G (p9 := 0) d_m_breaks_48 rfl rfl ?_
          refine gfR_m_130 G d_m_breaks_49 ?_
          refine vj_iload_n G (p9 := 2) d_m_breaks_52 rfl rfl ?_
          obtain ⟨c10, hF⟩ := ck_some hF
          refine vj_iald G (x := x2) lkR_22 (by decide) c10 d_m_breaks_53 ?_
          refine vj_mr (fun hM11 => ?_)
          obtain ⟨c12, hF⟩ := ck_some hF
          refine vj_iald G (x := (M 22 x2.toNat)) lkR_1 (by decide) c12 d_m_breaks_54 ?_
          refine vj_iconst G (v := 1) d_m_breaks_55 rfl ?_
          refine vj_icmp_eq G (tgt := 62) d_m_breaks_56 (by decide) (mr_a hM11 lkR_1) ic_1 (fun c13 => ?_) (fun c13 => ?_)
          · rw [if_pos c13] at hF
            refine vj_aload_n G (p9 := 0) d_m_breaks_62 rfl rfl ?_
            refine gfR_m_188 G d_m_breaks_63 ?_
            refine vj_iload_n G (p9 := 1) d_m_breaks_66 rfl rfl ?_
            refine vj_iload_n G (p9 := 2) d_m_breaks_67 rfl rfl ?_
            obtain ⟨c14, hF⟩ := ck_some hF
            refine vj_iast G (x := x1) lkR_38 (by decide) (by decide) (by decide) c14 hx2 d_m_breaks_68 ?_
            refine vj_iinc G (p9 := 1) (n := 1) (lv2 := [(1, .int (i32 (w32 (x1 + 1)))), (0, .ref (wa w 0)), (2, .int (i32 x2))]) d_m_breaks_69 rfl (by decide) rfl ?_
            refine vj_sub [1, 0, 2] rfl ?_
            exact wk_m_breaks_72 G0 n k12 hk12 (w32 (x1 + 1)) x2 (ir_w _) hx2 _ hF
          · rw [if_neg c13] at hF
            refine vj_goto G (tgt := 72) d_m_breaks_59 (by decide) ?_
            exact wk_m_breaks_72 G0 n k12 hk12 x1 x2 hx1 hx2 _ hF
set_option maxHeartbeats 4000000 in
set_option maxRecDepth 100000 in
theorem wl_m_breaks_12 {w : Wd} {X : Cx} {r : Int} {M9 : Mm} (G0 : Gx LR w X "WhoRulesModel" b_m_breaks 6 2 45 (some .long)) (n : Nat) : ∀ (f : Nat) (x1 x2 : Int) (hx1 : inR x1) (hx2 : inR x2) (M : Mm), lp_m_breaks_12 n f x1 x2 M = some (r, M9) → VJ LR w X 6 2 r M9 M [(0, .ref (wa w 0)), (1, .int (i32 x1)), (2, .int (i32 x2))] [] 12 := by
  intro f
  induction f with
  | zero => intro x1 x2 hx1 hx2 M hF; cases hF
  | succ f ih => intro x1 x2 hx1 hx2 M hF; exact wk_m_breaks_12 G0 n (lp_m_breaks_12 n f) ih x1 x2 hx1 hx2 M hF
set_option maxHeartbeats 4000000 in
set_option maxRecDepth 100000 in
theorem ct_m_breaks {w : Wd} (hij : ij LR w) (n : Nat) {M : Mm} {r : Int} {M9 : Mm} (hF : f_m_breaks n  M = some (r, M9)) : Ct LR w y_m_breaks b_m_breaks 6 (some .long) 2 45 2 [.ref (wa w 0)] M r M9 := by
  refine Ct.of hij KstR (by decide +kernel) (Nat.le_of_ble_eq_true rfl) (fun X G0 => ?_)
  have G := G0.1
  show VJ LR w X 6 2 r M9 M [(0, .ref (wa w 0))] [] 0
  unfold f_m_breaks at hF
  refine vj_aload_n G (p9 := 0) d_m_breaks_0 rfl rfl ?_
  refine vj_aload_n G (p9 := 0) d_m_breaks_1 rfl rfl ?_
  refine gfR_m_7 G d_m_breaks_2 ?_
  refine vj_mr (fun hM1 => ?_)
  obtain ⟨r2, M2, e2, hF⟩ := bnd_some hF
  refine vj_callV0 G (ct_m_layOut (gx_ij G) n (M 0 0) (mr_o hM1 lkR_0 flR_0_0) e2) lkR_0 clR_0 rfl q_1676 cq_m_layOut rfl (by decide) (by decide) (Nat.le_of_ble_eq_true rfl) d_m_breaks_5 rfl (fun hr2 => ?_)
  refine vj_iconst G (v := 0) d_m_breaks_8 rfl ?_
  refine vj_istore_n G (lv2 := [(1, .int (i32 0)), (0, .ref (wa w 0))]) d_m_breaks_9 rfl (by decide) rfl ?_
  refine vj_iconst G (v := 0) d_m_breaks_10 rfl ?_
  refine vj_istore_n G (lv2 := [(2, .int (i32 0)), (1, .int (i32 0)), (0, .ref (wa w 0))]) d_m_breaks_11 rfl (by decide) rfl ?_
  refine vj_sub [2, 1, 0] rfl ?_
  exact wl_m_breaks_12 G0 n  n 0 0 ic_0 ic_0 _ hF
set_option maxHeartbeats 4000000 in
set_option maxRecDepth 100000 in
theorem wk_m_body_19 {w : Wd} {X : Cx} {r : Int} {M9 : Mm} (G0 : Gx LR w X "WhoRulesModel" b_m_body 2 0 0 none) (n : Nat) (M : Mm) (hF : f_m_body_19 n  M = some (r, M9)) : VJ LR w X 2 0 r M9 M [(0, .ref (wa w 0))] [] 19 := by
  have G := G0.1
  unfold f_m_body_19 at hF
  refine vj_aload_n G (p9 := 0) d_m_body_19 rfl rfl ?_
  refine vj_dup G d_m_body_20 rfl ?_
  refine gfR_m_228 G d_m_body_21 ?_
  refine vj_mr (fun hM1 => ?_)
  refine vj_iconst G (v := 1) d_m_body_24 rfl ?_
  refine vj_iadd G d_m_body_25 ?_
  refine pfR_m_228 G (ir_w _) d_m_body_26 ?_
  cases hF
  exact vj_vret G0 d_m_body_29
set_option maxHeartbeats 4000000 in
set_option maxRecDepth 100000 in
theorem ct_m_body {w : Wd} (hij : ij LR w) (n : Nat) (x1 : Int) (hx1 : inR x1) {M : Mm} {r : Int} {M9 : Mm} (hF : f_m_body n x1 M = some (r, M9)) : Ct LR w y_m_body b_m_body 2 none 0 0 0 [.ref (wa w 0), .int (i32 x1)] M r M9 := by
  refine Ct.of hij KstR (by decide +kernel) (Nat.le_of_ble_eq_true rfl) (fun X G0 => ?_)
  have G := G0.1
  show VJ LR w X 2 0 r M9 M [(0, .ref (wa w 0)), (1, .int (i32 x1))] [] 0
  unfold f_m_body at hF
  refine vj_aload_n G (p9 := 0) d_m_body_0 rfl rfl ?_
  refine gfR_m_228 G d_m_body_1 ?_
  refine vj_mr (fun hM1 => ?_)
  refine vj_bipush G (v := 20) d_m_body_4 rfl ?_
  refine vj_icmp_ge G (tgt := 19) d_m_body_6 (by decide) (mr_o hM1 lkR_0 flR_0_71) ic_20 (fun c2 => ?_) (fun c2 => ?_)
  · rw [if_pos c2] at hF
    refine vj_sub [0] rfl ?_
    exact wk_m_body_19 G0 n    _ hF
  · rw [if_neg c2] at hF
    refine vj_aload_n G (p9 := 0) d_m_body_9 rfl rfl ?_
    refine gfR_m_231 G d_m_body_10 ?_
    refine vj_aload_n G (p9 := 0) d_m_body_13 rfl rfl ?_
    refine gfR_m_228 G d_m_body_14 ?_
    refine vj_mr (fun hM3 => ?_)
    refine vj_iload_n G (p9 := 1) d_m_body_17 rfl rfl ?_
    obtain ⟨c4, hF⟩ := ck_some hF
    refine vj_iast G (x := (M 0 71)) lkR_46 (by decide) (by decide) (by decide) c4 hx1 d_m_body_18 ?_
    refine vj_sub [0] rfl ?_
    exact wk_m_body_19 G0 n    _ hF
set_option maxHeartbeats 4000000 in
set_option maxRecDepth 100000 in
theorem ct_m_plainVotes {w : Wd} (hij : ij LR w) (n : Nat) (x1 x2 : Int) (hx1 : inR x1) (hx2 : inR x2) {M : Mm} {r : Int} {M9 : Mm} (hF : f_m_plainVotes n x1 x2 M = some (r, M9)) : Ct LR w y_m_plainVotes b_m_plainVotes 3 (some .int) 1 21 1 [.ref (wa w 0), .int (i32 x1), .int (i32 x2)] M r M9 := by
  refine Ct.of hij KstR (by decide +kernel) (Nat.le_of_ble_eq_true rfl) (fun X G0 => ?_)
  have G := G0.1
  show VJ LR w X 3 1 r M9 M [(0, .ref (wa w 0)), (1, .int (i32 x1)), (2, .int (i32 x2))] [] 0
  unfold f_m_plainVotes at hF
  refine vj_aload_n G (p9 := 0) d_m_plainVotes_0 rfl rfl ?_
  refine vj_bipush G (v := 10) d_m_plainVotes_1 rfl ?_
  obtain ⟨r1, M1, e1, hF⟩ := bnd_some hF
  refine vj_callV0 G (ct_m_body (gx_ij G) n 10 ic_10 e1) lkR_0 clR_0 rfl q_1875 cq_m_body rfl (by decide) (by decide) (Nat.le_of_ble_eq_true rfl) d_m_plainVotes_3 rfl (fun hr1 => ?_)
  refine vj_iload_n G (p9 := 2) d_m_plainVotes_6 rfl rfl ?_
  refine vj_iload_n G (p9 := 1) d_m_plainVotes_7 rfl rfl ?_
  refine vj_iadd G d_m_plainVotes_8 ?_
  cases hF
  exact vj_iret G0 (ir_w _) d_m_plainVotes_9
set_option maxHeartbeats 4000000 in
set_option maxRecDepth 100000 in
theorem ct_m_votesBy {w : Wd} (hij : ij LR w) (n : Nat) (x1 x2 : Int) (hx1 : inR x1) (hx2 : inR x2) {M : Mm} {r : Int} {M9 : Mm} (hF : f_m_votesBy n x1 x2 M = some (r, M9)) : Ct LR w y_m_votesBy b_m_votesBy 3 (some .int) 2 43 1 [.ref (wa w 0), .int (i32 x1), .int (i32 x2)] M r M9 := by
  refine Ct.of hij KstR (by decide +kernel) (Nat.le_of_ble_eq_true rfl) (fun X G0 => ?_)
  have G := G0.1
  show VJ LR w X 3 1 r M9 M [(0, .ref (wa w 0)), (1, .int (i32 x1)), (2, .int (i32 x2))] [] 0
  unfold f_m_votesBy at hF
  refine vj_aload_n G (p9 := 0) d_m_votesBy_0 rfl rfl ?_
  refine gfR_m_25 G d_m_votesBy_1 ?_
  refine vj_iload_n G (p9 := 1) d_m_votesBy_4 rfl rfl ?_
  obtain ⟨c1, hF⟩ := ck_some hF
  refine vj_iald G (x := x1) lkR_1 (by decide) c1 d_m_votesBy_5 ?_
  refine vj_mr (fun hM2 => ?_)
  refine vj_iconst G (v := 1) d_m_votesBy_6 rfl ?_
  refine vj_icmp_ne G (tgt := 26) d_m_votesBy_7 (by decide) (mr_a hM2 lkR_1) ic_1 (fun c3 => ?_) (fun c3 => ?_)
  · rw [if_pos c3] at hF
    refine vj_aload_n G (p9 := 0) d_m_votesBy_26 rfl rfl ?_
    refine gfR_m_25 G d_m_votesBy_27 ?_
    refine vj_iload_n G (p9 := 1) d_m_votesBy_30 rfl rfl ?_
    obtain ⟨c4, hF⟩ := ck_some hF
    refine vj_iald G (x := x1) lkR_1 (by decide) c4 d_m_votesBy_31 ?_
    refine vj_mr (fun hM5 => ?_)
    refine vj_iconst G (v := 3) d_m_votesBy_32 rfl ?_
    refine vj_icmp_ne G (tgt := 50) d_m_votesBy_33 (by decide) (mr_a hM5 lkR_1) ic_3 (fun c6 => ?_) (fun c6 => ?_)
    · rw [if_pos c6] at hF
      refine vj_aload_n G (p9 := 0) d_m_votesBy_50 rfl rfl ?_
      refine gfR_m_25 G d_m_votesBy_51 ?_
      refine vj_iload_n G (p9 := 1) d_m_votesBy_54 rfl rfl ?_
      obtain ⟨c7, hF⟩ := ck_some hF
      refine vj_iald G (x := x1) lkR_1 (by decide) c7 d_m_votesBy_55 ?_
      refine vj_mr (fun hM8 => ?_)
      refine vj_iconst G (v := 5) d_m_votesBy_56 rfl ?_
      refine vj_icmp_ne G (tgt := 75) d_m_votesBy_57 (by decide) (mr_a hM8 lkR_1) ic_5 (fun c9 => ?_) (fun c9 => ?_)
      · rw [if_pos c9] at hF
        refine vj_aload_n G (p9 := 0) d_m_votesBy_75 rfl rfl ?_
        refine vj_iload_n G (p9 := 1) d_m_votesBy_76 rfl rfl ?_
        refine vj_iload_n G (p9 := 2) d_m_votesBy_77 rfl rfl ?_
        obtain ⟨r10, M10, e10, hF⟩ := bnd_some hF
        refine vj_callV1 G (ct_m_plainVotes (gx_ij G) n x1 x2 hx1 hx2 e10) lkR_0 clR_0 rfl q_1879 cq_m_plainVotes rfl (by decide) (by decide) (Nat.le_of_ble_eq_true rfl) d_m_votesBy_78 rfl (fun hr10 => ?_)
        cases hF
        exact vj_iret G0 hr10 d_m_votesBy_81
      · rw [if_neg c9] at hF
        refine vj_aload_n G (p9 := 0) d_m_votesBy_60 rfl rfl ?_
        refine vj_bipush G (v := 60) d_m_votesBy_61 rfl ?_
        obtain ⟨r11, M11, e11, hF⟩ := bnd_some hF
        refine vj_callV0 G (ct_m_body (gx_ij G) n 60 ic_60 e11) lkR_0 clR_0 rfl q_1875 cq_m_body rfl (by decide) (by decide) (Nat.le_of_ble_eq_true rfl) d_m_votesBy_63 rfl (fun hr11 => ?_)
        refine vj_aload_n G (p9 := 0) d_m_votesBy_66 rfl rfl ?_
        refine vj_iload_n G (p9 := 1) d_m_votesBy_67 rfl rfl ?_
        refine vj_iload_n G (p9 := 2) d_m_votesBy_68 rfl rfl ?_
        refine vj_iconst G (v := 4) d_m_votesBy_69 rfl ?_
        refine vj_iadd G d_m_votesBy_70 ?_
        obtain ⟨r12, M12, e12, hF⟩ := bnd_some hF
        refine vj_callV1 G (ct_m_plainVotes (gx_ij G) n x1 (w32 (x2 + 4)) hx1 (ir_w _) e12) lkR_0 clR_0 rfl q_1879 cq_m_plainVotes rfl (by decide) (by decide) (Nat.le_of_ble_eq_true rfl) d_m_votesBy_71 rfl (fun hr12 => ?_)
        cases hF
        exact vj_iret G0 hr12 d_m_votesBy_74
    · rw [if_neg c6] at hF
      refine vj_aload_n G (p9 := 0) d_m_votesBy_36 rfl rfl ?_
      refine vj_bipush G (v := 40) d_m_votesBy_37 rfl ?_
      obtain ⟨r13, M13, e13, hF⟩ := bnd_some hF
      refine vj_callV0 G (ct_m_body (gx_ij G) n 40 ic_40 e13) lkR_0 clR_0 rfl q_1875 cq_m_body rfl (by decide) (by decide) (Nat.le_of_ble_eq_true rfl) d_m_votesBy_39 rfl (fun hr13 => ?_)
      refine vj_aload_n G (p9 := 0) d_m_votesBy_42 rfl rfl ?_
      refine vj_iload_n G (p9 := 1) d_m_votesBy_43 rfl rfl ?_
      refine vj_iload_n G (p9 := 2) d_m_votesBy_44 rfl rfl ?_
      obtain ⟨r14, M14, e14, hF⟩ := bnd_some hF
      refine vj_callV1 G (ct_m_plainVotes (gx_ij G) n x1 x2 hx1 hx2 e14) lkR_0 clR_0 rfl q_1879 cq_m_plainVotes rfl (by decide) (by decide) (Nat.le_of_ble_eq_true rfl) d_m_votesBy_45 rfl (fun hr14 => ?_)
      refine vj_ineg G d_m_votesBy_48 ?_
      cases hF
      exact vj_iret G0 (ir_w _) d_m_votesBy_49
  · rw [if_neg c3] at hF
    refine vj_aload_n G (p9 := 0) d_m_votesBy_10 rfl rfl ?_
    refine vj_bipush G (v := 20) d_m_votesBy_11 rfl ?_
    obtain ⟨r15, M15, e15, hF⟩ := bnd_some hF
    refine vj_callV0 G (ct_m_body (gx_ij G) n 20 ic_20 e15) lkR_0 clR_0 rfl q_1875 cq_m_body rfl (by decide) (by decide) (Nat.le_of_ble_eq_true rfl) d_m_votesBy_13 rfl (fun hr15 => ?_)
    refine vj_aload_n G (p9 := 0) d_m_votesBy_16 rfl rfl ?_
    refine vj_iload_n G (p9 := 1) d_m_votesBy_17 rfl rfl ?_
    refine vj_iload_n G (p9 := 2) d_m_votesBy_18 rfl rfl ?_
    obtain ⟨r16, M16, e16, hF⟩ := bnd_some hF
    refine vj_callV1 G (ct_m_plainVotes (gx_ij G) n x1 x2 hx1 hx2 e16) lkR_0 clR_0 rfl q_1879 cq_m_plainVotes rfl (by decide) (by decide) (Nat.le_of_ble_eq_true rfl) d_m_votesBy_19 rfl (fun hr16 => ?_)
    refine vj_bipush G (v := 6) d_m_votesBy_22 rfl ?_
    refine vj_ixor G d_m_votesBy_24 ?_
    cases hF
    exact vj_iret G0 (ir_xo _ _) d_m_votesBy_25
set_option maxHeartbeats 4000000 in
set_option maxRecDepth 100000 in
theorem ct_m_plainOwns {w : Wd} (hij : ij LR w) (n : Nat) (x1 x2 : Int) (hx1 : inR x1) (hx2 : inR x2) {M : Mm} {r : Int} {M9 : Mm} (hF : f_m_plainOwns n x1 x2 M = some (r, M9)) : Ct LR w y_m_plainOwns b_m_plainOwns 3 (some .int) 3 65 1 [.ref (wa w 0), .int (i32 x1), .int (i32 x2)] M r M9 := by
  refine Ct.of hij KstR (by decide +kernel) (Nat.le_of_ble_eq_true rfl) (fun X G0 => ?_)
  have G := G0.1
  show VJ LR w X 3 1 r M9 M [(0, .ref (wa w 0)), (1, .int (i32 x1)), (2, .int (i32 x2))] [] 0
  unfold f_m_plainOwns at hF
  refine vj_aload_n G (p9 := 0) d_m_plainOwns_0 rfl rfl ?_
  refine vj_bipush G (v := 11) d_m_plainOwns_1 rfl ?_
  obtain ⟨r1, M1, e1, hF⟩ := bnd_some hF
  refine vj_callV0 G (ct_m_body (gx_ij G) n 11 ic_11 e1) lkR_0 clR_0 rfl q_1875 cq_m_body rfl (by decide) (by decide) (Nat.le_of_ble_eq_true rfl) d_m_plainOwns_3 rfl (fun hr1 => ?_)
  refine vj_aload_n G (p9 := 0) d_m_plainOwns_6 rfl rfl ?_
  refine vj_iload_n G (p9 := 1) d_m_plainOwns_7 rfl rfl ?_
  refine vj_iload_n G (p9 := 2) d_m_plainOwns_8 rfl rfl ?_
  obtain ⟨r2, M2, e2, hF⟩ := bnd_some hF
  refine vj_callV1 G (ct_m_votesBy (gx_ij G) n x1 x2 hx1 hx2 e2) lkR_0 clR_0 rfl q_1871 cq_m_votesBy rfl (by decide) (by decide) (Nat.le_of_ble_eq_true rfl) d_m_plainOwns_9 rfl (fun hr2 => ?_)
  refine vj_iconst G (v := 2) d_m_plainOwns_12 rfl ?_
  refine vj_imul G d_m_plainOwns_13 ?_
  cases hF
  exact vj_iret G0 (ir_w _) d_m_plainOwns_14
set_option maxHeartbeats 4000000 in
set_option maxRecDepth 100000 in
theorem ct_m_personOwns {w : Wd} (hij : ij LR w) (n : Nat) (x1 x2 : Int) (hx1 : inR x1) (hx2 : inR x2) {M : Mm} {r : Int} {M9 : Mm} (hF : f_m_personOwns n x1 x2 M = some (r, M9)) : Ct LR w y_m_personOwns b_m_personOwns 3 (some .int) 4 87 1 [.ref (wa w 0), .int (i32 x1), .int (i32 x2)] M r M9 := by
  refine Ct.of hij KstR (by decide +kernel) (Nat.le_of_ble_eq_true rfl) (fun X G0 => ?_)
  have G := G0.1
  show VJ LR w X 3 1 r M9 M [(0, .ref (wa w 0)), (1, .int (i32 x1)), (2, .int (i32 x2))] [] 0
  unfold f_m_personOwns at hF
  refine vj_aload_n G (p9 := 0) d_m_personOwns_0 rfl rfl ?_
  refine vj_bipush G (v := 30) d_m_personOwns_1 rfl ?_
  obtain ⟨r1, M1, e1, hF⟩ := bnd_some hF
  refine vj_callV0 G (ct_m_body (gx_ij G) n 30 ic_30 e1) lkR_0 clR_0 rfl q_1875 cq_m_body rfl (by decide) (by decide) (Nat.le_of_ble_eq_true rfl) d_m_personOwns_3 rfl (fun hr1 => ?_)
  refine vj_aload_n G (p9 := 0) d_m_personOwns_6 rfl rfl ?_
  refine vj_iload_n G (p9 := 1) d_m_personOwns_7 rfl rfl ?_
  refine vj_iload_n G (p9 := 2) d_m_personOwns_8 rfl rfl ?_
  refine vj_iconst G (v := 3) d_m_personOwns_9 rfl ?_
  refine vj_imul G d_m_personOwns_10 ?_
  obtain ⟨r2, M2, e2, hF⟩ := bnd_some hF
  refine vj_callV1 G (ct_m_plainOwns (gx_ij G) n x1 (w32 (x2 * 3)) hx1 (ir_w _) e2) lkR_0 clR_0 rfl q_1891 cq_m_plainOwns rfl (by decide) (by decide) (Nat.le_of_ble_eq_true rfl) d_m_personOwns_11 rfl (fun hr2 => ?_)
  cases hF
  exact vj_iret G0 hr2 d_m_personOwns_14
set_option maxHeartbeats 4000000 in
set_option maxRecDepth 100000 in
theorem ct_m_ownsBy {w : Wd} (hij : ij LR w) (n : Nat) (x1 x2 : Int) (hx1 : inR x1) (hx2 : inR x2) {M : Mm} {r : Int} {M9 : Mm} (hF : f_m_ownsBy n x1 x2 M = some (r, M9)) : Ct LR w y_m_ownsBy b_m_ownsBy 4 (some .int) 5 109 1 [.ref (wa w 0), .int (i32 x1), .int (i32 x2)] M r M9 := by
  refine Ct.of hij KstR (by decide +kernel) (Nat.le_of_ble_eq_true rfl) (fun X G0 => ?_)
  have G := G0.1
  show VJ LR w X 4 1 r M9 M [(0, .ref (wa w 0)), (1, .int (i32 x1)), (2, .int (i32 x2))] [] 0
  unfold f_m_ownsBy at hF
  refine vj_aload_n G (p9 := 0) d_m_ownsBy_0 rfl rfl ?_
  refine gfR_m_25 G d_m_ownsBy_1 ?_
  refine vj_iload_n G (p9 := 1) d_m_ownsBy_4 rfl rfl ?_
  obtain ⟨c1, hF⟩ := ck_some hF
  refine vj_iald G (x := x1) lkR_1 (by decide) c1 d_m_ownsBy_5 ?_
  refine vj_mr (fun hM2 => ?_)
  refine vj_iconst G (v := 2) d_m_ownsBy_6 rfl ?_
  refine vj_icmp_ne G (tgt := 17) d_m_ownsBy_7 (by decide) (mr_a hM2 lkR_1) ic_2 (fun c3 => ?_) (fun c3 => ?_)
  · rw [if_pos c3] at hF
    refine vj_aload_n G (p9 := 0) d_m_ownsBy_17 rfl rfl ?_
    refine gfR_m_25 G d_m_ownsBy_18 ?_
    refine vj_iload_n G (p9 := 1) d_m_ownsBy_21 rfl rfl ?_
    obtain ⟨c4, hF⟩ := ck_some hF
    refine vj_iald G (x := x1) lkR_1 (by decide) c4 d_m_ownsBy_22 ?_
    refine vj_mr (fun hM5 => ?_)
    refine vj_iconst G (v := 3) d_m_ownsBy_23 rfl ?_
    refine vj_icmp_ne G (tgt := 54) d_m_ownsBy_24 (by decide) (mr_a hM5 lkR_1) ic_3 (fun c6 => ?_) (fun c6 => ?_)
    · rw [if_pos c6] at hF
      refine vj_aload_n G (p9 := 0) d_m_ownsBy_54 rfl rfl ?_
      refine vj_iload_n G (p9 := 1) d_m_ownsBy_55 rfl rfl ?_
      refine vj_iload_n G (p9 := 2) d_m_ownsBy_56 rfl rfl ?_
      obtain ⟨r7, M7, e7, hF⟩ := bnd_some hF
      refine vj_callV1 G (ct_m_plainOwns (gx_ij G) n x1 x2 hx1 hx2 e7) lkR_0 clR_0 rfl q_1891 cq_m_plainOwns rfl (by decide) (by decide) (Nat.le_of_ble_eq_true rfl) d_m_ownsBy_57 rfl (fun hr7 => ?_)
      cases hF
      exact vj_iret G0 hr7 d_m_ownsBy_60
    · rw [if_neg c6] at hF
      refine vj_aload_n G (p9 := 0) d_m_ownsBy_27 rfl rfl ?_
      refine vj_bipush G (v := 41) d_m_ownsBy_28 rfl ?_
      obtain ⟨r8, M8, e8, hF⟩ := bnd_some hF
      refine vj_callV0 G (ct_m_body (gx_ij G) n 41 ic_41 e8) lkR_0 clR_0 rfl q_1875 cq_m_body rfl (by decide) (by decide) (Nat.le_of_ble_eq_true rfl) d_m_ownsBy_30 rfl (fun hr8 => ?_)
      refine vj_aload_n G (p9 := 0) d_m_ownsBy_33 rfl rfl ?_
      refine vj_iload_n G (p9 := 1) d_m_ownsBy_34 rfl rfl ?_
      refine vj_iload_n G (p9 := 2) d_m_ownsBy_35 rfl rfl ?_
      obtain ⟨r9, M9, e9, hF⟩ := bnd_some hF
      refine vj_callV1 G (ct_m_personOwns (gx_ij G) n x1 x2 hx1 hx2 e9) lkR_0 clR_0 rfl q_1887 cq_m_personOwns rfl (by decide) (by decide) (Nat.le_of_ble_eq_true rfl) d_m_ownsBy_36 rfl (fun hr9 => ?_)
      refine vj_istore_n G (lv2 := [(3, .int (i32 r9)), (0, .ref (wa w 0)), (1, .int (i32 x1)), (2, .int (i32 x2))]) d_m_ownsBy_39 rfl (by decide) rfl ?_
      refine vj_iload_n G (p9 := 0) d_m_ownsBy_40 rfl rfl ?_
      refine vj_aload_n G (p9 := 1) d_m_ownsBy_41 rfl rfl ?_
      refine vj_iload_n G (p9 := 2) d_m_ownsBy_42 rfl rfl ?_
      refine vj_aload_n G (p9 := 1) d_m_ownsBy_43 rfl rfl ?_
      refine gfR_m_29 G d_m_ownsBy_44 ?_
      refine vj_iload_n G (p9 := 2) d_m_ownsBy_47 rfl rfl ?_
      obtain ⟨c10, hF⟩ := ck_some hF
      refine vj_iald G (x := x1) lkR_2 (by decide) c10 d_m_ownsBy_48 ?_
      refine vj_mr (fun hM11 => ?_)
      obtain ⟨r12, M12, e12, hF⟩ := bnd_some hF
      refine vj_callV1 G (ct_m_plainVotes (gx_ij G) n x1 (M9 2 x1.toNat) hx1 (mr_a hM11 lkR_2) e12) lkR_0 clR_0 rfl q_1879 cq_m_plainVotes rfl (by decide) (by decide) (Nat.le_of_ble_eq_true rfl) d_m_ownsBy_49 rfl (fun hr12 => ?_)
      refine vj_iadd G d_m_ownsBy_52 ?_
      cases hF
      exact vj_iret G0 (ir_w _) d_m_ownsBy_53
  · rw [if_neg c3] at hF
    refine vj_aload_n G (p9 := 0) d_m_ownsBy_10 rfl rfl ?_
    refine vj_iload_n G (p9 := 1) d_m_ownsBy_11 rfl rfl ?_
    refine vj_iload_n G (p9 := 2) d_m_ownsBy_12 rfl rfl ?_
    obtain ⟨r13, M13, e13, hF⟩ := bnd_some hF
    refine vj_callV1 G (ct_m_personOwns (gx_ij G) n x1 x2 hx1 hx2 e13) lkR_0 clR_0 rfl q_1887 cq_m_personOwns rfl (by decide) (by decide) (Nat.le_of_ble_eq_true rfl) d_m_ownsBy_13 rfl (fun hr13 => ?_)
    cases hF
    exact vj_iret G0 hr13 d_m_ownsBy_16
set_option maxHeartbeats 4000000 in
set_option maxRecDepth 100000 in
theorem ct_m_plainRules {w : Wd} (hij : ij LR w) (n : Nat) (x1 x2 : Int) (hx1 : inR x1) (hx2 : inR x2) {M : Mm} {r : Int} {M9 : Mm} (hF : f_m_plainRules n x1 x2 M = some (r, M9)) : Ct LR w y_m_plainRules b_m_plainRules 3 (some .int) 6 132 1 [.ref (wa w 0), .int (i32 x1), .int (i32 x2)] M r M9 := by
  refine Ct.of hij KstR (by decide +kernel) (Nat.le_of_ble_eq_true rfl) (fun X G0 => ?_)
  have G := G0.1
  show VJ LR w X 3 1 r M9 M [(0, .ref (wa w 0)), (1, .int (i32 x1)), (2, .int (i32 x2))] [] 0
  unfold f_m_plainRules at hF
  refine vj_aload_n G (p9 := 0) d_m_plainRules_0 rfl rfl ?_
  refine vj_bipush G (v := 12) d_m_plainRules_1 rfl ?_
  obtain ⟨r1, M1, e1, hF⟩ := bnd_some hF
  refine vj_callV0 G (ct_m_body (gx_ij G) n 12 ic_12 e1) lkR_0 clR_0 rfl q_1875 cq_m_body rfl (by decide) (by decide) (Nat.le_of_ble_eq_true rfl) d_m_plainRules_3 rfl (fun hr1 => ?_)
  refine vj_aload_n G (p9 := 0) d_m_plainRules_6 rfl rfl ?_
  refine vj_iload_n G (p9 := 1) d_m_plainRules_7 rfl rfl ?_
  refine vj_iload_n G (p9 := 2) d_m_plainRules_8 rfl rfl ?_
  obtain ⟨r2, M2, e2, hF⟩ := bnd_some hF
  refine vj_callV1 G (ct_m_ownsBy (gx_ij G) n x1 x2 hx1 hx2 e2) lkR_0 clR_0 rfl q_1883 cq_m_ownsBy rfl (by decide) (by decide) (Nat.le_of_ble_eq_true rfl) d_m_plainRules_9 rfl (fun hr2 => ?_)
  refine vj_aload_n G (p9 := 0) d_m_plainRules_12 rfl rfl ?_
  refine gfR_m_29 G d_m_plainRules_13 ?_
  refine vj_iload_n G (p9 := 1) d_m_plainRules_16 rfl rfl ?_
  obtain ⟨c3, hF⟩ := ck_some hF
  refine vj_iald G (x := x1) lkR_2 (by decide) c3 d_m_plainRules_17 ?_
  refine vj_mr (fun hM4 => ?_)
  refine vj_isub G d_m_plainRules_18 ?_
  cases hF
  exact vj_iret G0 (ir_w _) d_m_plainRules_19
set_option maxHeartbeats 4000000 in
set_option maxRecDepth 100000 in
theorem ct_m_fundRules {w : Wd} (hij : ij LR w) (n : Nat) (x1 x2 : Int) (hx1 : inR x1) (hx2 : inR x2) {M : Mm} {r : Int} {M9 : Mm} (hF : f_m_fundRules n x1 x2 M = some (r, M9)) : Ct LR w y_m_fundRules b_m_fundRules 4 (some .int) 7 154 1 [.ref (wa w 0), .int (i32 x1), .int (i32 x2)] M r M9 := by
  refine Ct.of hij KstR (by decide +kernel) (Nat.le_of_ble_eq_true rfl) (fun X G0 => ?_)
  have G := G0.1
  show VJ LR w X 4 1 r M9 M [(0, .ref (wa w 0)), (1, .int (i32 x1)), (2, .int (i32 x2))] [] 0
  unfold f_m_fundRules at hF
  refine vj_aload_n G (p9 := 0) d_m_fundRules_0 rfl rfl ?_
  refine vj_bipush G (v := 50) d_m_fundRules_1 rfl ?_
  obtain ⟨r1, M1, e1, hF⟩ := bnd_some hF
  refine vj_callV0 G (ct_m_body (gx_ij G) n 50 ic_50 e1) lkR_0 clR_0 rfl q_1875 cq_m_body rfl (by decide) (by decide) (Nat.le_of_ble_eq_true rfl) d_m_fundRules_3 rfl (fun hr1 => ?_)
  refine vj_aload_n G (p9 := 0) d_m_fundRules_6 rfl rfl ?_
  refine vj_iload_n G (p9 := 1) d_m_fundRules_7 rfl rfl ?_
  refine vj_iload_n G (p9 := 2) d_m_fundRules_8 rfl rfl ?_
  obtain ⟨r2, M2, e2, hF⟩ := bnd_some hF
  refine vj_callV1 G (ct_m_ownsBy (gx_ij G) n x1 x2 hx1 hx2 e2) lkR_0 clR_0 rfl q_1883 cq_m_ownsBy rfl (by decide) (by decide) (Nat.le_of_ble_eq_true rfl) d_m_fundRules_9 rfl (fun hr2 => ?_)
  refine vj_istore_n G (lv2 := [(3, .int (i32 r2)), (0, .ref (wa w 0)), (1, .int (i32 x1)), (2, .int (i32 x2))]) d_m_fundRules_12 rfl (by decide) rfl ?_
  refine vj_iload_n G (p9 := 0) d_m_fundRules_13 rfl rfl ?_
  refine vj_aload_n G (p9 := 1) d_m_fundRules_14 rfl rfl ?_
  refine vj_iload_n G (p9 := 2) d_m_fundRules_15 rfl rfl ?_
  refine vj_iload_n G (p9 := 3) d_m_fundRules_16 rfl rfl ?_
  obtain ⟨r3, M3, e3, hF⟩ := bnd_some hF
  refine vj_callV1 G (ct_m_plainRules (gx_ij G) n x1 x2 hx1 hx2 e3) lkR_0 clR_0 rfl q_1899 cq_m_plainRules rfl (by decide) (by decide) (Nat.le_of_ble_eq_true rfl) d_m_fundRules_17 rfl (fun hr3 => ?_)
  refine vj_isub G d_m_fundRules_20 ?_
  cases hF
  exact vj_iret G0 (ir_w _) d_m_fundRules_21
set_option maxHeartbeats 4000000 in
set_option maxRecDepth 100000 in
theorem ct_m_rulesBy {w : Wd} (hij : ij LR w) (n : Nat) (x1 x2 : Int) (hx1 : inR x1) (hx2 : inR x2) {M : Mm} {r : Int} {M9 : Mm} (hF : f_m_rulesBy n x1 x2 M = some (r, M9)) : Ct LR w y_m_rulesBy b_m_rulesBy 4 (some .int) 8 177 1 [.ref (wa w 0), .int (i32 x1), .int (i32 x2)] M r M9 := by
  refine Ct.of hij KstR (by decide +kernel) (Nat.le_of_ble_eq_true rfl) (fun X G0 => ?_)
  have G := G0.1
  show VJ LR w X 4 1 r M9 M [(0, .ref (wa w 0)), (1, .int (i32 x1)), (2, .int (i32 x2))] [] 0
  unfold f_m_rulesBy at hF
  refine vj_aload_n G (p9 := 0) d_m_rulesBy_0 rfl rfl ?_
  refine gfR_m_25 G d_m_rulesBy_1 ?_
  refine vj_iload_n G (p9 := 1) d_m_rulesBy_4 rfl rfl ?_
  obtain ⟨c1, hF⟩ := ck_some hF
  refine vj_iald G (x := x1) lkR_1 (by decide) c1 d_m_rulesBy_5 ?_
  refine vj_mr (fun hM2 => ?_)
  refine vj_iconst G (v := 1) d_m_rulesBy_6 rfl ?_
  refine vj_icmp_ne G (tgt := 32) d_m_rulesBy_7 (by decide) (mr_a hM2 lkR_1) ic_1 (fun c3 => ?_) (fun c3 => ?_)
  · rw [if_pos c3] at hF
    refine vj_aload_n G (p9 := 0) d_m_rulesBy_32 rfl rfl ?_
    refine gfR_m_25 G d_m_rulesBy_33 ?_
    refine vj_iload_n G (p9 := 1) d_m_rulesBy_36 rfl rfl ?_
    obtain ⟨c4, hF⟩ := ck_some hF
    refine vj_iald G (x := x1) lkR_1 (by decide) c4 d_m_rulesBy_37 ?_
    refine vj_mr (fun hM5 => ?_)
    refine vj_iconst G (v := 4) d_m_rulesBy_38 rfl ?_
    refine vj_icmp_ne G (tgt := 49) d_m_rulesBy_39 (by decide) (mr_a hM5 lkR_1) ic_4 (fun c6 => ?_) (fun c6 => ?_)
    · rw [if_pos c6] at hF
      refine vj_aload_n G (p9 := 0) d_m_rulesBy_49 rfl rfl ?_
      refine gfR_m_25 G d_m_rulesBy_50 ?_
      refine vj_iload_n G (p9 := 1) d_m_rulesBy_53 rfl rfl ?_
      obtain ⟨c7, hF⟩ := ck_some hF
      refine vj_iald G (x := x1) lkR_1 (by decide) c7 d_m_rulesBy_54 ?_
      refine vj_mr (fun hM8 => ?_)
      refine vj_iconst G (v := 5) d_m_rulesBy_55 rfl ?_
      refine vj_icmp_ne G (tgt := 74) d_m_rulesBy_56 (by decide) (mr_a hM8 lkR_1) ic_5 (fun c9 => ?_) (fun c9 => ?_)
      · rw [if_pos c9] at hF
        refine vj_aload_n G (p9 := 0) d_m_rulesBy_74 rfl rfl ?_
        refine vj_iload_n G (p9 := 1) d_m_rulesBy_75 rfl rfl ?_
        refine vj_iload_n G (p9 := 2) d_m_rulesBy_76 rfl rfl ?_
        obtain ⟨r10, M10, e10, hF⟩ := bnd_some hF
        refine vj_callV1 G (ct_m_plainRules (gx_ij G) n x1 x2 hx1 hx2 e10) lkR_0 clR_0 rfl q_1899 cq_m_plainRules rfl (by decide) (by decide) (Nat.le_of_ble_eq_true rfl) d_m_rulesBy_77 rfl (fun hr10 => ?_)
        cases hF
        exact vj_iret G0 hr10 d_m_rulesBy_80
      · rw [if_neg c9] at hF
        refine vj_aload_n G (p9 := 0) d_m_rulesBy_59 rfl rfl ?_
        refine vj_bipush G (v := 61) d_m_rulesBy_60 rfl ?_
        obtain ⟨r11, M11, e11, hF⟩ := bnd_some hF
        refine vj_callV0 G (ct_m_body (gx_ij G) n 61 ic_61 e11) lkR_0 clR_0 rfl q_1875 cq_m_body rfl (by decide) (by decide) (Nat.le_of_ble_eq_true rfl) d_m_rulesBy_62 rfl (fun hr11 => ?_)
        refine vj_aload_n G (p9 := 0) d_m_rulesBy_65 rfl rfl ?_
        refine vj_iload_n G (p9 := 1) d_m_rulesBy_66 rfl rfl ?_
        refine vj_iload_n G (p9 := 2) d_m_rulesBy_67 rfl rfl ?_
        obtain ⟨r12, M12, e12, hF⟩ := bnd_some hF
        refine vj_callV1 G (ct_m_fundRules (gx_ij G) n x1 x2 hx1 hx2 e12) lkR_0 clR_0 rfl q_1903 cq_m_fundRules rfl (by decide) (by decide) (Nat.le_of_ble_eq_true rfl) d_m_rulesBy_68 rfl (fun hr12 => ?_)
        refine vj_iload_n G (p9 := 1) d_m_rulesBy_71 rfl rfl ?_
        refine vj_ixor G d_m_rulesBy_72 ?_
        cases hF
        exact vj_iret G0 (ir_xo _ _) d_m_rulesBy_73
    · rw [if_neg c6] at hF
      refine vj_aload_n G (p9 := 0) d_m_rulesBy_42 rfl rfl ?_
      refine vj_iload_n G (p9 := 1) d_m_rulesBy_43 rfl rfl ?_
      refine vj_iload_n G (p9 := 2) d_m_rulesBy_44 rfl rfl ?_
      obtain ⟨r13, M13, e13, hF⟩ := bnd_some hF
      refine vj_callV1 G (ct_m_fundRules (gx_ij G) n x1 x2 hx1 hx2 e13) lkR_0 clR_0 rfl q_1903 cq_m_fundRules rfl (by decide) (by decide) (Nat.le_of_ble_eq_true rfl) d_m_rulesBy_45 rfl (fun hr13 => ?_)
      cases hF
      exact vj_iret G0 hr13 d_m_rulesBy_48
  · rw [if_neg c3] at hF
    refine vj_aload_n G (p9 := 0) d_m_rulesBy_10 rfl rfl ?_
    refine vj_bipush G (v := 21) d_m_rulesBy_11 rfl ?_
    obtain ⟨r14, M14, e14, hF⟩ := bnd_some hF
    refine vj_callV0 G (ct_m_body (gx_ij G) n 21 ic_21 e14) lkR_0 clR_0 rfl q_1875 cq_m_body rfl (by decide) (by decide) (Nat.le_of_ble_eq_true rfl) d_m_rulesBy_13 rfl (fun hr14 => ?_)
    refine vj_aload_n G (p9 := 0) d_m_rulesBy_16 rfl rfl ?_
    refine vj_iload_n G (p9 := 1) d_m_rulesBy_17 rfl rfl ?_
    refine vj_iload_n G (p9 := 2) d_m_rulesBy_18 rfl rfl ?_
    obtain ⟨r15, M15, e15, hF⟩ := bnd_some hF
    refine vj_callV1 G (ct_m_plainRules (gx_ij G) n x1 x2 hx1 hx2 e15) lkR_0 clR_0 rfl q_1899 cq_m_plainRules rfl (by decide) (by decide) (Nat.le_of_ble_eq_true rfl) d_m_rulesBy_19 rfl (fun hr15 => ?_)
    refine vj_istore_n G (lv2 := [(3, .int (i32 r15)), (0, .ref (wa w 0)), (1, .int (i32 x1)), (2, .int (i32 x2))]) d_m_rulesBy_22 rfl (by decide) rfl ?_
    refine vj_iload_n G (p9 := 0) d_m_rulesBy_23 rfl rfl ?_
    refine vj_aload_n G (p9 := 1) d_m_rulesBy_24 rfl rfl ?_
    refine vj_iload_n G (p9 := 2) d_m_rulesBy_25 rfl rfl ?_
    refine vj_iconst G (v := 1) d_m_rulesBy_26 rfl ?_
    obtain ⟨r16, M16, e16, hF⟩ := bnd_some hF
    refine vj_callV1 G (ct_m_votesBy (gx_ij G) n x1 1 hx1 ic_1 e16) lkR_0 clR_0 rfl q_1871 cq_m_votesBy rfl (by decide) (by decide) (Nat.le_of_ble_eq_true rfl) d_m_rulesBy_27 rfl (fun hr16 => ?_)
    refine vj_iadd G d_m_rulesBy_30 ?_
    cases hF
    exact vj_iret G0 (ir_w _) d_m_rulesBy_31
set_option maxHeartbeats 4000000 in
set_option maxRecDepth 100000 in
theorem ct_m_act {w : Wd} (hij : ij LR w) (n : Nat) (x1 x2 x3 : Int) (hx1 : inR x1) (hx2 : inR x2) (hx3 : inR x3) {M : Mm} {r : Int} {M9 : Mm} (hF : f_m_act n x1 x2 x3 M = some (r, M9)) : Ct LR w y_m_act b_m_act 4 (some .int) 9 200 1 [.ref (wa w 0), .int (i32 x1), .int (i32 x2), .int (i32 x3)] M r M9 := by
  refine Ct.of hij KstR (by decide +kernel) (Nat.le_of_ble_eq_true rfl) (fun X G0 => ?_)
  have G := G0.1
  show VJ LR w X 4 1 r M9 M [(0, .ref (wa w 0)), (1, .int (i32 x1)), (2, .int (i32 x2)), (3, .int (i32 x3))] [] 0
  unfold f_m_act at hF
  refine vj_aload_n G (p9 := 0) d_m_act_0 rfl rfl ?_
  refine vj_iconst G (v := 0) d_m_act_1 rfl ?_
  refine pfR_m_228 G ic_0 d_m_act_2 ?_
  refine vj_aload_n G (p9 := 0) d_m_act_5 rfl rfl ?_
  refine vj_iload_n G (p9 := 1) d_m_act_6 rfl rfl ?_
  obtain ⟨r1, M1, e1, hF⟩ := bnd_some hF
  refine vj_callV3 G (ct_m_isHolder (gx_ij G) n x1 hx1 e1) lkR_0 clR_0 rfl q_1559 cq_m_isHolder rfl (by decide) (by decide) (Nat.le_of_ble_eq_true rfl) d_m_act_7 rfl (fun hr1 => ?_)
  refine vj_if_eq G (tgt := 23) d_m_act_10 (by decide) (ir_b hr1) (fun c2 => ?_) (fun c2 => ?_)
  · rw [if_pos c2] at hF
    refine vj_iconst G (v := 0) d_m_act_23 rfl ?_
    cases hF
    exact vj_iret G0 ic_0 d_m_act_24
  · rw [if_neg c2] at hF
    refine vj_aload_n G (p9 := 0) d_m_act_13 rfl rfl ?_
    refine vj_iload_n G (p9 := 2) d_m_act_14 rfl rfl ?_
    refine vj_iconst G (v := 0) d_m_act_15 rfl ?_
    refine vj_iconst G (v := 2) d_m_act_16 rfl ?_
    obtain ⟨r3, M3, e3, hF⟩ := bnd_some hF
    refine vj_callV3 G (ct_m_in (gx_ij G) n x2 0 2 hx2 ic_0 ic_2 e3) lkR_0 clR_0 rfl q_1543 cq_m_in rfl (by decide) (by decide) (Nat.le_of_ble_eq_true rfl) d_m_act_17 rfl (fun hr3 => ?_)
    refine vj_if_ne G (tgt := 25) d_m_act_20 (by decide) (ir_b hr3) (fun c4 => ?_) (fun c4 => ?_)
    · rw [if_pos c4] at hF
      refine vj_iload_n G (p9 := 2) d_m_act_25 rfl rfl ?_
      refine vj_if_ne G (tgt := 38) d_m_act_26 (by decide) hx2 (fun c5 => ?_) (fun c5 => ?_)
      · rw [if_pos c5] at hF
        refine vj_iload_n G (p9 := 2) d_m_act_38 rfl rfl ?_
        refine vj_iconst G (v := 1) d_m_act_39 rfl ?_
        refine vj_icmp_ne G (tgt := 52) d_m_act_40 (by decide) hx2 ic_1 (fun c6 => ?_) (fun c6 => ?_)
        · rw [if_pos c6] at hF
          refine vj_aload_n G (p9 := 0) d_m_act_52 rfl rfl ?_
          refine vj_iload_n G (p9 := 1) d_m_act_53 rfl rfl ?_
          refine vj_iload_n G (p9 := 3) d_m_act_54 rfl rfl ?_
          obtain ⟨r7, M7, e7, hF⟩ := bnd_some hF
          refine vj_callV1 G (ct_m_rulesBy (gx_ij G) n x1 x3 hx1 hx3 e7) lkR_0 clR_0 rfl q_1895 cq_m_rulesBy rfl (by decide) (by decide) (Nat.le_of_ble_eq_true rfl) d_m_act_55 rfl (fun hr7 => ?_)
          cases hF
          exact vj_iret G0 hr7 d_m_act_58
        · rw [if_neg c6] at hF
          refine vj_aload_n G (p9 := 0) d_m_act_43 rfl rfl ?_
          refine vj_iload_n G (p9 := 1) d_m_act_44 rfl rfl ?_
          refine vj_iload_n G (p9 := 3) d_m_act_45 rfl rfl ?_
          obtain ⟨r8, M8, e8, hF⟩ := bnd_some hF
          refine vj_callV1 G (ct_m_ownsBy (gx_ij G) n x1 x3 hx1 hx3 e8) lkR_0 clR_0 rfl q_1883 cq_m_ownsBy rfl (by decide) (by decide) (Nat.le_of_ble_eq_true rfl) d_m_act_46 rfl (fun hr8 => ?_)
          refine vj_goto G (tgt := 58) d_m_act_49 (by decide) ?_
          cases hF
          exact vj_iret G0 hr8 d_m_act_58
      · rw [if_neg c5] at hF
        refine vj_aload_n G (p9 := 0) d_m_act_29 rfl rfl ?_
        refine vj_iload_n G (p9 := 1) d_m_act_30 rfl rfl ?_
        refine vj_iload_n G (p9 := 3) d_m_act_31 rfl rfl ?_
        obtain ⟨r9, M9, e9, hF⟩ := bnd_some hF
        refine vj_callV1 G (ct_m_votesBy (gx_ij G) n x1 x3 hx1 hx3 e9) lkR_0 clR_0 rfl q_1871 cq_m_votesBy rfl (by decide) (by decide) (Nat.le_of_ble_eq_true rfl) d_m_act_32 rfl (fun hr9 => ?_)
        refine vj_goto G (tgt := 58) d_m_act_35 (by decide) ?_
        cases hF
        exact vj_iret G0 hr9 d_m_act_58
    · rw [if_neg c4] at hF
      refine vj_iconst G (v := 0) d_m_act_23 rfl ?_
      cases hF
      exact vj_iret G0 ic_0 d_m_act_24
set_option maxHeartbeats 4000000 in
set_option maxRecDepth 100000 in
theorem wk_m_trace_28 {w : Wd} {X : Cx} {r : Int} {M9 : Mm} (G0 : Gx LR w X "WhoRulesModel" b_m_trace 2 1 23 (some .int)) (n : Nat) (M : Mm) (hF : f_m_trace_28 n  M = some (r, M9)) : VJ LR w X 2 1 r M9 M [] [] 28 := by
  have G := G0.1
  unfold f_m_trace_28 at hF
  refine vj_iconst G (v := (-1)) d_m_trace_28 rfl ?_
  cases hF
  exact vj_iret G0 ic_m1 d_m_trace_29
set_option maxHeartbeats 4000000 in
set_option maxRecDepth 100000 in
theorem ct_m_trace {w : Wd} (hij : ij LR w) (n : Nat) (x1 : Int) (hx1 : inR x1) {M : Mm} {r : Int} {M9 : Mm} (hF : f_m_trace n x1 M = some (r, M9)) : Ct LR w y_m_trace b_m_trace 2 (some .int) 1 23 1 [.ref (wa w 0), .int (i32 x1)] M r M9 := by
  refine Ct.of hij KstR (by decide +kernel) (Nat.le_of_ble_eq_true rfl) (fun X G0 => ?_)
  have G := G0.1
  show VJ LR w X 2 1 r M9 M [(0, .ref (wa w 0)), (1, .int (i32 x1))] [] 0
  unfold f_m_trace at hF
  refine vj_aload_n G (p9 := 0) d_m_trace_0 rfl rfl ?_
  refine vj_iload_n G (p9 := 1) d_m_trace_1 rfl rfl ?_
  refine vj_iconst G (v := 0) d_m_trace_2 rfl ?_
  refine vj_bipush G (v := 19) d_m_trace_3 rfl ?_
  obtain ⟨r1, M1, e1, hF⟩ := bnd_some hF
  refine vj_callV3 G (ct_m_in (gx_ij G) n x1 0 19 hx1 ic_0 ic_19 e1) lkR_0 clR_0 rfl q_1543 cq_m_in rfl (by decide) (by decide) (Nat.le_of_ble_eq_true rfl) d_m_trace_5 rfl (fun hr1 => ?_)
  refine vj_if_eq G (tgt := 28) d_m_trace_8 (by decide) (ir_b hr1) (fun c2 => ?_) (fun c2 => ?_)
  · rw [if_pos c2] at hF
    refine vj_sub [] rfl ?_
    exact wk_m_trace_28 G0 n    _ hF
  · rw [if_neg c2] at hF
    refine vj_iload_n G (p9 := 1) d_m_trace_11 rfl rfl ?_
    refine vj_aload_n G (p9 := 0) d_m_trace_12 rfl rfl ?_
    refine gfR_m_228 G d_m_trace_13 ?_
    refine vj_mr (fun hM3 => ?_)
    refine vj_icmp_ge G (tgt := 28) d_m_trace_16 (by decide) hx1 (mr_o hM3 lkR_0 flR_0_71) (fun c4 => ?_) (fun c4 => ?_)
    · rw [if_pos c4] at hF
      refine vj_sub [] rfl ?_
      exact wk_m_trace_28 G0 n    _ hF
    · rw [if_neg c4] at hF
      refine vj_aload_n G (p9 := 0) d_m_trace_19 rfl rfl ?_
      refine gfR_m_231 G d_m_trace_20 ?_
      refine vj_iload_n G (p9 := 1) d_m_trace_23 rfl rfl ?_
      obtain ⟨c5, hF⟩ := ck_some hF
      refine vj_iald G (x := x1) lkR_46 (by decide) c5 d_m_trace_24 ?_
      refine vj_mr (fun hM6 => ?_)
      refine vj_goto G (tgt := 29) d_m_trace_25 (by decide) ?_
      cases hF
      exact vj_iret G0 (mr_a hM6 lkR_46) d_m_trace_29
set_option maxHeartbeats 4000000 in
set_option maxRecDepth 100000 in
theorem wk_m_taken_68 {w : Wd} {X : Cx} {r : Int} {M9 : Mm} (G0 : Gx LR w X "WhoRulesModel" b_m_taken 3 2 44 (some .int)) (n : Nat) (x1 : Int) (hx1 : inR x1) (M : Mm) (hF : f_m_taken_68 n x1 M = some (r, M9)) : VJ LR w X 3 1 r M9 M [(0, .ref (wa w 0)), (1, .int (i32 x1))] [] 68 := by
  have G := G0.1
  unfold f_m_taken_68 at hF
  refine vj_aload_n G (p9 := 0) d_m_taken_68 rfl rfl ?_
  refine gfR_m_25 G d_m_taken_69 ?_
  refine vj_iload_n G (p9 := 1) d_m_taken_72 rfl rfl ?_
  obtain ⟨c1, hF⟩ := ck_some hF
  refine vj_iald G (x := x1) lkR_1 (by decide) c1 d_m_taken_73 ?_
  refine vj_mr (fun hM2 => ?_)
  refine vj_goto G (tgt := 79) d_m_taken_74 (by decide) ?_
  cases hF
  exact vj_iret G0 (mr_a hM2 lkR_1) d_m_taken_79
set_option maxHeartbeats 4000000 in
set_option maxRecDepth 100000 in
theorem wk_m_taken_77 {w : Wd} {X : Cx} {r : Int} {M9 : Mm} (G0 : Gx LR w X "WhoRulesModel" b_m_taken 3 2 44 (some .int)) (n : Nat) (M : Mm) (hF : f_m_taken_77 n  M = some (r, M9)) : VJ LR w X 3 1 r M9 M [] [] 77 := by
  have G := G0.1
  unfold f_m_taken_77 at hF
  refine vj_bipush G (v := (-12)) d_m_taken_77 rfl ?_
  cases hF
  exact vj_iret G0 ic_m12 d_m_taken_79
set_option maxHeartbeats 4000000 in
set_option maxRecDepth 100000 in
theorem wk_m_taken_53 {w : Wd} {X : Cx} {r : Int} {M9 : Mm} (G0 : Gx LR w X "WhoRulesModel" b_m_taken 3 2 44 (some .int)) (n : Nat) (x1 x2 : Int) (hx1 : inR x1) (hx2 : inR x2) (M : Mm) (hF : f_m_taken_53 n x1 x2 M = some (r, M9)) : VJ LR w X 3 1 r M9 M [(0, .ref (wa w 0)), (1, .int (i32 x1)), (2, .int (i32 x2))] [] 53 := by
  have G := G0.1
  unfold f_m_taken_53 at hF
  refine vj_iload_n G (p9 := 2) d_m_taken_53 rfl rfl ?_
  refine vj_iconst G (v := 4) d_m_taken_54 rfl ?_
  refine vj_icmp_ne G (tgt := 77) d_m_taken_55 (by decide) hx2 ic_4 (fun c1 => ?_) (fun c1 => ?_)
  · rw [if_pos c1] at hF
    refine vj_sub [] rfl ?_
    exact wk_m_taken_77 G0 n    _ hF
  · rw [if_neg c1] at hF
    refine vj_aload_n G (p9 := 0) d_m_taken_58 rfl rfl ?_
    refine gfR_m_25 G d_m_taken_59 ?_
    refine vj_iload_n G (p9 := 1) d_m_taken_62 rfl rfl ?_
    obtain ⟨c2, hF⟩ := ck_some hF
    refine vj_iald G (x := x1) lkR_1 (by decide) c2 d_m_taken_63 ?_
    refine vj_mr (fun hM3 => ?_)
    refine vj_iconst G (v := 5) d_m_taken_64 rfl ?_
    refine vj_icmp_ne G (tgt := 77) d_m_taken_65 (by decide) (mr_a hM3 lkR_1) ic_5 (fun c4 => ?_) (fun c4 => ?_)
    · rw [if_pos c4] at hF
      refine vj_sub [] rfl ?_
      exact wk_m_taken_77 G0 n    _ hF
    · rw [if_neg c4] at hF
      refine vj_sub [0, 1] rfl ?_
      exact wk_m_taken_68 G0 n  x1 hx1 _ hF
set_option maxHeartbeats 4000000 in
set_option maxRecDepth 100000 in
theorem ct_m_taken {w : Wd} (hij : ij LR w) (n : Nat) (x1 x2 : Int) (hx1 : inR x1) (hx2 : inR x2) {M : Mm} {r : Int} {M9 : Mm} (hF : f_m_taken n x1 x2 M = some (r, M9)) : Ct LR w y_m_taken b_m_taken 3 (some .int) 2 44 1 [.ref (wa w 0), .int (i32 x1), .int (i32 x2)] M r M9 := by
  refine Ct.of hij KstR (by decide +kernel) (Nat.le_of_ble_eq_true rfl) (fun X G0 => ?_)
  have G := G0.1
  show VJ LR w X 3 1 r M9 M [(0, .ref (wa w 0)), (1, .int (i32 x1)), (2, .int (i32 x2))] [] 0
  unfold f_m_taken at hF
  refine vj_aload_n G (p9 := 0) d_m_taken_0 rfl rfl ?_
  refine vj_iload_n G (p9 := 2) d_m_taken_1 rfl rfl ?_
  refine vj_iconst G (v := 0) d_m_taken_2 rfl ?_
  refine vj_iconst G (v := 5) d_m_taken_3 rfl ?_
  obtain ⟨r1, M1, e1, hF⟩ := bnd_some hF
  refine vj_callV3 G (ct_m_in (gx_ij G) n x2 0 5 hx2 ic_0 ic_5 e1) lkR_0 clR_0 rfl q_1543 cq_m_in rfl (by decide) (by decide) (Nat.le_of_ble_eq_true rfl) d_m_taken_4 rfl (fun hr1 => ?_)
  refine vj_if_ne G (tgt := 13) d_m_taken_7 (by decide) (ir_b hr1) (fun c2 => ?_) (fun c2 => ?_)
  · rw [if_pos c2] at hF
    refine vj_aload_n G (p9 := 0) d_m_taken_13 rfl rfl ?_
    refine vj_iload_n G (p9 := 1) d_m_taken_14 rfl rfl ?_
    obtain ⟨r3, M3, e3, hF⟩ := bnd_some hF
    refine vj_callV3 G (ct_m_isHolder (gx_ij G) n x1 hx1 e3) lkR_0 clR_0 rfl q_1559 cq_m_isHolder rfl (by decide) (by decide) (Nat.le_of_ble_eq_true rfl) d_m_taken_15 rfl (fun hr3 => ?_)
    refine vj_if_ne G (tgt := 24) d_m_taken_18 (by decide) (ir_b hr3) (fun c4 => ?_) (fun c4 => ?_)
    · rw [if_pos c4] at hF
      refine vj_iload_n G (p9 := 2) d_m_taken_24 rfl rfl ?_
      refine vj_if_eq G (tgt := 68) d_m_taken_25 (by decide) hx2 (fun c5 => ?_) (fun c5 => ?_)
      · rw [if_pos c5] at hF
        refine vj_sub [0, 1] rfl ?_
        exact wk_m_taken_68 G0 n  x1 hx1 _ hF
      · rw [if_neg c5] at hF
        refine vj_aload_n G (p9 := 0) d_m_taken_28 rfl rfl ?_
        refine gfR_m_25 G d_m_taken_29 ?_
        refine vj_iload_n G (p9 := 1) d_m_taken_32 rfl rfl ?_
        obtain ⟨c6, hF⟩ := ck_some hF
        refine vj_iald G (x := x1) lkR_1 (by decide) c6 d_m_taken_33 ?_
        refine vj_mr (fun hM7 => ?_)
        refine vj_iload_n G (p9 := 2) d_m_taken_34 rfl rfl ?_
        refine vj_icmp_eq G (tgt := 68) d_m_taken_35 (by decide) (mr_a hM7 lkR_1) hx2 (fun c8 => ?_) (fun c8 => ?_)
        · rw [if_pos c8] at hF
          refine vj_sub [0, 1] rfl ?_
          exact wk_m_taken_68 G0 n  x1 hx1 _ hF
        · rw [if_neg c8] at hF
          refine vj_iload_n G (p9 := 2) d_m_taken_38 rfl rfl ?_
          refine vj_iconst G (v := 2) d_m_taken_39 rfl ?_
          refine vj_icmp_ne G (tgt := 53) d_m_taken_40 (by decide) hx2 ic_2 (fun c9 => ?_) (fun c9 => ?_)
          · rw [if_pos c9] at hF
            exact wk_m_taken_53 G0 n  x1 x2 hx1 hx2 _ hF
          · rw [if_neg c9] at hF
            refine vj_aload_n G (p9 := 0) d_m_taken_43 rfl rfl ?_
            refine gfR_m_25 G d_m_taken_44 ?_
            refine vj_iload_n G (p9 := 1) d_m_taken_47 rfl rfl ?_
            obtain ⟨c10, hF⟩ := ck_some hF
            refine vj_iald G (x := x1) lkR_1 (by decide) c10 d_m_taken_48 ?_
            refine vj_mr (fun hM11 => ?_)
            refine vj_iconst G (v := 3) d_m_taken_49 rfl ?_
            refine vj_icmp_eq G (tgt := 68) d_m_taken_50 (by decide) (mr_a hM11 lkR_1) ic_3 (fun c12 => ?_) (fun c12 => ?_)
            · rw [if_pos c12] at hF
              refine vj_sub [0, 1] rfl ?_
              exact wk_m_taken_68 G0 n  x1 hx1 _ hF
            · rw [if_neg c12] at hF
              exact wk_m_taken_53 G0 n  x1 x2 hx1 hx2 _ hF
    · rw [if_neg c4] at hF
      refine vj_bipush G (v := (-11)) d_m_taken_21 rfl ?_
      cases hF
      exact vj_iret G0 ic_m11 d_m_taken_23
  · rw [if_neg c2] at hF
    refine vj_bipush G (v := (-2)) d_m_taken_10 rfl ?_
    cases hF
    exact vj_iret G0 ic_m2 d_m_taken_12
set_option maxHeartbeats 4000000 in
set_option maxRecDepth 100000 in
theorem ct_m_count {w : Wd} (hij : ij LR w) (n : Nat) (x1 : Int) (hx1 : inR x1) {M : Mm} {r : Int} {M9 : Mm} (hF : f_m_count n x1 M = some (r, M9)) : Ct LR w y_m_count b_m_count 2 (some .int) 4 87 1 [.ref (wa w 0), .int (i32 x1)] M r M9 := by
  refine Ct.of hij KstR (by decide +kernel) (Nat.le_of_ble_eq_true rfl) (fun X G0 => ?_)
  have G := G0.1
  show VJ LR w X 2 1 r M9 M [(0, .ref (wa w 0)), (1, .int (i32 x1))] [] 0
  unfold f_m_count at hF
  refine vj_iload_n G (p9 := 1) d_m_count_0 rfl rfl ?_
  by_cases c1 : x1 = 0
  · rw [if_pos c1] at hF
    refine vj_swIn G (y := 0) (tgt := 56) d_m_count_1 hx1 c1 (by decide) (by decide) rfl (by decide) ?_
    refine vj_aload_n G (p9 := 0) d_m_count_56 rfl rfl ?_
    refine gfR_m_7 G d_m_count_57 ?_
    refine vj_mr (fun hM2 => ?_)
    cases hF
    exact vj_iret G0 (mr_o hM2 lkR_0 flR_0_0) d_m_count_60
  · rw [if_neg c1] at hF
    by_cases c3 : x1 = 1
    · rw [if_pos c3] at hF
      refine vj_swIn G (y := 1) (tgt := 61) d_m_count_1 hx1 c3 (by decide) (by decide) rfl (by decide) ?_
      refine vj_aload_n G (p9 := 0) d_m_count_61 rfl rfl ?_
      refine gfR_m_13 G d_m_count_62 ?_
      refine vj_mr (fun hM4 => ?_)
      cases hF
      exact vj_iret G0 (mr_o hM4 lkR_0 flR_0_1) d_m_count_65
    · rw [if_neg c3] at hF
      by_cases c5 : x1 = 2
      · rw [if_pos c5] at hF
        refine vj_swIn G (y := 2) (tgt := 66) d_m_count_1 hx1 c5 (by decide) (by decide) rfl (by decide) ?_
        refine vj_aload_n G (p9 := 0) d_m_count_66 rfl rfl ?_
        refine gfR_m_16 G d_m_count_67 ?_
        refine vj_mr (fun hM6 => ?_)
        cases hF
        exact vj_iret G0 (mr_o hM6 lkR_0 flR_0_2) d_m_count_70
      · rw [if_neg c5] at hF
        by_cases c7 : x1 = 3
        · rw [if_pos c7] at hF
          refine vj_swIn G (y := 3) (tgt := 71) d_m_count_1 hx1 c7 (by decide) (by decide) rfl (by decide) ?_
          refine vj_aload_n G (p9 := 0) d_m_count_71 rfl rfl ?_
          refine gfR_m_19 G d_m_count_72 ?_
          refine vj_mr (fun hM8 => ?_)
          cases hF
          exact vj_iret G0 (mr_o hM8 lkR_0 flR_0_3) d_m_count_75
        · rw [if_neg c7] at hF
          by_cases c9 : x1 = 4
          · rw [if_pos c9] at hF
            refine vj_swIn G (y := 4) (tgt := 76) d_m_count_1 hx1 c9 (by decide) (by decide) rfl (by decide) ?_
            refine vj_aload_n G (p9 := 0) d_m_count_76 rfl rfl ?_
            refine gfR_m_22 G d_m_count_77 ?_
            refine vj_mr (fun hM10 => ?_)
            cases hF
            exact vj_iret G0 (mr_o hM10 lkR_0 flR_0_4) d_m_count_80
          · rw [if_neg c9] at hF
            by_cases c11 : x1 = 5
            · rw [if_pos c11] at hF
              refine vj_swIn G (y := 5) (tgt := 81) d_m_count_1 hx1 c11 (by decide) (by decide) rfl (by decide) ?_
              refine vj_aload_n G (p9 := 0) d_m_count_81 rfl rfl ?_
              refine gfR_m_65 G d_m_count_82 ?_
              refine vj_mr (fun hM12 => ?_)
              cases hF
              exact vj_iret G0 (mr_o hM12 lkR_0 flR_0_18) d_m_count_85
            · rw [if_neg c11] at hF
              by_cases c13 : x1 = 6
              · rw [if_pos c13] at hF
                refine vj_swIn G (y := 6) (tgt := 86) d_m_count_1 hx1 c13 (by decide) (by decide) rfl (by decide) ?_
                refine vj_aload_n G (p9 := 0) d_m_count_86 rfl rfl ?_
                refine gfR_m_68 G d_m_count_87 ?_
                refine vj_mr (fun hM14 => ?_)
                cases hF
                exact vj_iret G0 (mr_o hM14 lkR_0 flR_0_19) d_m_count_90
              · rw [if_neg c13] at hF
                by_cases c15 : x1 = 7
                · rw [if_pos c15] at hF
                  refine vj_swIn G (y := 7) (tgt := 91) d_m_count_1 hx1 c15 (by decide) (by decide) rfl (by decide) ?_
                  refine vj_aload_n G (p9 := 0) d_m_count_91 rfl rfl ?_
                  refine gfR_m_204 G d_m_count_92 ?_
                  refine vj_mr (fun hM16 => ?_)
                  cases hF
                  exact vj_iret G0 (mr_o hM16 lkR_0 flR_0_63) d_m_count_95
                · rw [if_neg c15] at hF
                  by_cases c17 : x1 = 8
                  · rw [if_pos c17] at hF
                    refine vj_swIn G (y := 8) (tgt := 96) d_m_count_1 hx1 c17 (by decide) (by decide) rfl (by decide) ?_
                    refine vj_aload_n G (p9 := 0) d_m_count_96 rfl rfl ?_
                    obtain ⟨r18, M18, e18, hF⟩ := bnd_some hF
                    refine vj_callV0 G (ct_m_listRulers (gx_ij G) n   e18) lkR_0 clR_0 rfl q_1728 cq_m_listRulers rfl (by decide) (by decide) (Nat.le_of_ble_eq_true rfl) d_m_count_97 rfl (fun hr18 => ?_)
                    refine vj_aload_n G (p9 := 0) d_m_count_100 rfl rfl ?_
                    refine gfR_m_166 G d_m_count_101 ?_
                    refine vj_mr (fun hM19 => ?_)
                    cases hF
                    exact vj_iret G0 (mr_o hM19 lkR_0 flR_0_51) d_m_count_104
                  · rw [if_neg c17] at hF
                    by_cases c20 : x1 = 9
                    · rw [if_pos c20] at hF
                      refine vj_swIn G (y := 9) (tgt := 105) d_m_count_1 hx1 c20 (by decide) (by decide) rfl (by decide) ?_
                      refine vj_aload_n G (p9 := 0) d_m_count_105 rfl rfl ?_
                      refine gfR_m_228 G d_m_count_106 ?_
                      refine vj_mr (fun hM21 => ?_)
                      cases hF
                      exact vj_iret G0 (mr_o hM21 lkR_0 flR_0_71) d_m_count_109
                    · rw [if_neg c20] at hF
                      refine vj_swOut G (tgt := 110) d_m_count_1 hx1 (by omega) (by decide) ?_
                      refine vj_bipush G (v := (-2)) d_m_count_110 rfl ?_
                      cases hF
                      exact vj_iret G0 ic_m2 d_m_count_112
set_option maxHeartbeats 4000000 in
set_option maxRecDepth 100000 in
theorem wk_m_tape_69 {w : Wd} {X : Cx} {r : Int} {M9 : Mm} (G0 : Gx LR w X "WhoRulesModel" b_m_tape 5 2 44 (some .int)) (n : Nat) (k69 : Int → Int → Mm → Rr) (hk69 : ∀ (x1 x4 : Int) (hx1 : inR x1) (hx4 : inR x4) (M : Mm), k69 x1 x4 M = some (r, M9) → VJ LR w X 5 1 r M9 M [(0, .ref (wa w 0)), (1, .int (i32 x1)), (4, .int (i32 x4))] [] 69) (x1 x4 : Int) (hx1 : inR x1) (hx4 : inR x4) (M : Mm) (hF : f_m_tape_69 n k69 x1 x4 M = some (r, M9)) : VJ LR w X 5 1 r M9 M [(0, .ref (wa w 0)), (1, .int (i32 x1)), (4, .int (i32 x4))] [] 69 := by
  have G := G0.1
  unfold f_m_tape_69 at hF
  refine vj_iload G (p9 := 2) d_m_tape_69 rfl ?_
  refine vj_bipush G (v := 60) d_m_tape_71 rfl ?_
  refine vj_icmp_ge G (tgt := 95) d_m_tape_73 (by decide) hx4 ic_60 (fun c1 => ?_) (fun c1 => ?_)
  · rw [if_pos c1] at hF
    refine vj_iconst G (v := 1) d_m_tape_95 rfl ?_
    cases hF
    exact vj_iret G0 ic_1 d_m_tape_96
  · rw [if_neg c1] at hF
    refine vj_aload_n G (p9 := 0) d_m_tape_76 rfl rfl ?_
    refine gfR_m_240 G d_m_tape_77 ?_
    refine vj_bipush G (v := 60) d_m_tape_80 rfl ?_
    refine vj_iload_n G (p9 := 1) d_m_tape_82 rfl rfl ?_
    refine vj_imul G d_m_tape_83 ?_
    refine vj_iload G (p9 := 2) d_m_tape_84 rfl ?_
    refine vj_iadd G d_m_tape_86 ?_
    refine vj_lconst G (v := 0) d_m_tape_87 rfl ?_
    obtain ⟨c2, hF⟩ := ck_some hF
    refine vj_last G (x := w32 ((w32 (60 * x1)) + x4)) lkR_49 (by decide) (by decide) (by decide) c2 (lr_i ic_0) d_m_tape_88 ?_
    refine vj_iinc G (p9 := 2) (n := 1) (lv2 := [(4, .int (i32 (w32 (x4 + 1)))), (0, .ref (wa w 0)), (1, .int (i32 x1))]) d_m_tape_89 rfl (by decide) rfl ?_
    refine vj_goto G (tgt := 69) d_m_tape_92 (by decide) ?_
    refine vj_sub [1, 2, 0] rfl ?_
    exact hk69 x1 (w32 (x4 + 1)) hx1 (ir_w _) _ hF
set_option maxHeartbeats 4000000 in
set_option maxRecDepth 100000 in
theorem wl_m_tape_69 {w : Wd} {X : Cx} {r : Int} {M9 : Mm} (G0 : Gx LR w X "WhoRulesModel" b_m_tape 5 2 44 (some .int)) (n : Nat) : ∀ (f : Nat) (x1 x4 : Int) (hx1 : inR x1) (hx4 : inR x4) (M : Mm), lp_m_tape_69 n f x1 x4 M = some (r, M9) → VJ LR w X 5 1 r M9 M [(0, .ref (wa w 0)), (1, .int (i32 x1)), (4, .int (i32 x4))] [] 69 := by
  intro f
  induction f with
  | zero => intro x1 x4 hx1 hx4 M hF; cases hF
  | succ f ih => intro x1 x4 hx1 hx4 M hF; exact wk_m_tape_69 G0 n (lp_m_tape_69 n f) ih x1 x4 hx1 hx4 M hF
set_option maxHeartbeats 4000000 in
set_option maxRecDepth 100000 in
theorem wk_m_tape_65 {w : Wd} {X : Cx} {r : Int} {M9 : Mm} (G0 : Gx LR w X "WhoRulesModel" b_m_tape 5 2 44 (some .int)) (n : Nat) (x1 s1 s2 : Int) (hx1 : inR x1) (hs1 : inR s1) (hs2 : inR s2) (M : Mm) (hF : f_m_tape_65 n x1 s1 s2 M = some (r, M9)) : VJ LR w X 5 1 r M9 M [(0, .ref (wa w 0)), (1, .int (i32 x1))] [.int (i32 s2), .int (i32 s1), .ref (wa w 48)] 65 := by
  have G := G0.1
  unfold f_m_tape_65 at hF
  obtain ⟨c1, hF⟩ := ck_some hF
  refine vj_iast G (x := s1) lkR_48 (by decide) (by decide) (by decide) c1 hs2 d_m_tape_65 ?_
  refine vj_iconst G (v := 0) d_m_tape_66 rfl ?_
  refine vj_istore G (lv2 := [(4, .int (i32 0)), (0, .ref (wa w 0)), (1, .int (i32 x1))]) d_m_tape_67 (by decide) rfl ?_
  refine vj_sub [1, 2, 0] rfl ?_
  exact wl_m_tape_69 G0 n  n x1 0 hx1 ic_0 _ hF
set_option maxHeartbeats 4000000 in
set_option maxRecDepth 100000 in
theorem wk_m_tape_44 {w : Wd} {X : Cx} {r : Int} {M9 : Mm} (G0 : Gx LR w X "WhoRulesModel" b_m_tape 5 2 44 (some .int)) (n : Nat) (x1 x2 x3 : Int) (hx1 : inR x1) (hx2 : inR x2) (hx3 : inR x3) (M : Mm) (hF : f_m_tape_44 n x1 x2 x3 M = some (r, M9)) : VJ LR w X 5 1 r M9 M [(0, .ref (wa w 0)), (1, .int (i32 x1)), (2, .int (i32 x2)), (3, .int (i32 x3))] [] 44 := by
  have G := G0.1
  unfold f_m_tape_44 at hF
  refine vj_aload_n G (p9 := 0) d_m_tape_44 rfl rfl ?_
  refine gfR_m_234 G d_m_tape_45 ?_
  refine vj_iload_n G (p9 := 1) d_m_tape_48 rfl rfl ?_
  refine vj_iload_n G (p9 := 2) d_m_tape_49 rfl rfl ?_
  obtain ⟨c1, hF⟩ := ck_some hF
  refine vj_iast G (x := x1) lkR_47 (by decide) (by decide) (by decide) c1 hx2 d_m_tape_50 ?_
  refine vj_aload_n G (p9 := 0) d_m_tape_51 rfl rfl ?_
  refine gfR_m_237 G d_m_tape_52 ?_
  refine vj_iload_n G (p9 := 1) d_m_tape_55 rfl rfl ?_
  refine vj_iload_n G (p9 := 2) d_m_tape_56 rfl rfl ?_
  refine vj_if_ge G (tgt := 64) d_m_tape_57 (by decide) hx2 (fun c2 => ?_) (fun c2 => ?_)
  · rw [if_pos c2] at hF
    refine vj_iload_n G (p9 := 3) d_m_tape_64 rfl rfl ?_
    refine vj_sub [0, 1] rfl ?_
    exact wk_m_tape_65 G0 n  x1 x1 x3 hx1 hx1 hx3 _ hF
  · rw [if_neg c2] at hF
    refine vj_iconst G (v := 0) d_m_tape_60 rfl ?_
    refine vj_goto G (tgt := 65) d_m_tape_61 (by decide) ?_
    refine vj_sub [0, 1] rfl ?_
    exact wk_m_tape_65 G0 n  x1 x1 0 hx1 hx1 ic_0 _ hF
set_option maxHeartbeats 4000000 in
set_option maxRecDepth 100000 in
theorem wk_m_tape_33 {w : Wd} {X : Cx} {r : Int} {M9 : Mm} (G0 : Gx LR w X "WhoRulesModel" b_m_tape 5 2 44 (some .int)) (n : Nat) (x1 x2 x3 : Int) (hx1 : inR x1) (hx2 : inR x2) (hx3 : inR x3) (M : Mm) (hF : f_m_tape_33 n x1 x2 x3 M = some (r, M9)) : VJ LR w X 5 1 r M9 M [(0, .ref (wa w 0)), (1, .int (i32 x1)), (2, .int (i32 x2)), (3, .int (i32 x3))] [] 33 := by
  have G := G0.1
  unfold f_m_tape_33 at hF
  refine vj_iload_n G (p9 := 2) d_m_tape_33 rfl rfl ?_
  refine vj_if_lt G (tgt := 44) d_m_tape_34 (by decide) hx2 (fun c1 => ?_) (fun c1 => ?_)
  · rw [if_pos c1] at hF
    exact wk_m_tape_44 G0 n  x1 x2 x3 hx1 hx2 hx3 _ hF
  · rw [if_neg c1] at hF
    refine vj_iload_n G (p9 := 3) d_m_tape_37 rfl rfl ?_
    refine vj_if_ge G (tgt := 44) d_m_tape_38 (by decide) hx3 (fun c2 => ?_) (fun c2 => ?_)
    · rw [if_pos c2] at hF
      exact wk_m_tape_44 G0 n  x1 x2 x3 hx1 hx2 hx3 _ hF
    · rw [if_neg c2] at hF
      refine vj_bipush G (v := (-14)) d_m_tape_41 rfl ?_
      cases hF
      exact vj_iret G0 ic_m14 d_m_tape_43
set_option maxHeartbeats 4000000 in
set_option maxRecDepth 100000 in
theorem ct_m_tape {w : Wd} (hij : ij LR w) (n : Nat) (x1 x2 x3 : Int) (hx1 : inR x1) (hx2 : inR x2) (hx3 : inR x3) {M : Mm} {r : Int} {M9 : Mm} (hF : f_m_tape n x1 x2 x3 M = some (r, M9)) : Ct LR w y_m_tape b_m_tape 5 (some .int) 2 44 1 [.ref (wa w 0), .int (i32 x1), .int (i32 x2), .int (i32 x3)] M r M9 := by
  refine Ct.of hij KstR (by decide +kernel) (Nat.le_of_ble_eq_true rfl) (fun X G0 => ?_)
  have G := G0.1
  show VJ LR w X 5 1 r M9 M [(0, .ref (wa w 0)), (1, .int (i32 x1)), (2, .int (i32 x2)), (3, .int (i32 x3))] [] 0
  unfold f_m_tape at hF
  refine vj_aload_n G (p9 := 0) d_m_tape_0 rfl rfl ?_
  refine vj_iload_n G (p9 := 1) d_m_tape_1 rfl rfl ?_
  obtain ⟨r1, M1, e1, hF⟩ := bnd_some hF
  refine vj_callV3 G (ct_m_isTape (gx_ij G) n x1 hx1 e1) lkR_0 clR_0 rfl q_1740 cq_m_isTape rfl (by decide) (by decide) (Nat.le_of_ble_eq_true rfl) d_m_tape_2 rfl (fun hr1 => ?_)
  refine vj_if_ne G (tgt := 10) d_m_tape_5 (by decide) (ir_b hr1) (fun c2 => ?_) (fun c2 => ?_)
  · rw [if_pos c2] at hF
    refine vj_aload_n G (p9 := 0) d_m_tape_10 rfl rfl ?_
    refine vj_iload_n G (p9 := 2) d_m_tape_11 rfl rfl ?_
    refine vj_iconst G (v := (-1)) d_m_tape_12 rfl ?_
    refine vj_iconst G (v := 4) d_m_tape_13 rfl ?_
    obtain ⟨r3, M3, e3, hF⟩ := bnd_some hF
    refine vj_callV3 G (ct_m_in (gx_ij G) n x2 (-1) 4 hx2 ic_m1 ic_4 e3) lkR_0 clR_0 rfl q_1543 cq_m_in rfl (by decide) (by decide) (Nat.le_of_ble_eq_true rfl) d_m_tape_14 rfl (fun hr3 => ?_)
    refine vj_if_eq G (tgt := 30) d_m_tape_17 (by decide) (ir_b hr3) (fun c4 => ?_) (fun c4 => ?_)
    · rw [if_pos c4] at hF
      refine vj_bipush G (v := (-2)) d_m_tape_30 rfl ?_
      cases hF
      exact vj_iret G0 ic_m2 d_m_tape_32
    · rw [if_neg c4] at hF
      refine vj_iload_n G (p9 := 2) d_m_tape_20 rfl rfl ?_
      refine vj_if_lt G (tgt := 33) d_m_tape_21 (by decide) hx2 (fun c5 => ?_) (fun c5 => ?_)
      · rw [if_pos c5] at hF
        exact wk_m_tape_33 G0 n  x1 x2 x3 hx1 hx2 hx3 _ hF
      · rw [if_neg c5] at hF
        refine vj_iload_n G (p9 := 3) d_m_tape_24 rfl rfl ?_
        refine vj_bipush G (v := 60) d_m_tape_25 rfl ?_
        refine vj_icmp_le G (tgt := 33) d_m_tape_27 (by decide) hx3 ic_60 (fun c6 => ?_) (fun c6 => ?_)
        · rw [if_pos c6] at hF
          exact wk_m_tape_33 G0 n  x1 x2 x3 hx1 hx2 hx3 _ hF
        · rw [if_neg c6] at hF
          refine vj_bipush G (v := (-2)) d_m_tape_30 rfl ?_
          cases hF
          exact vj_iret G0 ic_m2 d_m_tape_32
  · rw [if_neg c2] at hF
    refine vj_iconst G (v := (-1)) d_m_tape_8 rfl ?_
    cases hF
    exact vj_iret G0 ic_m1 d_m_tape_9
set_option maxHeartbeats 4000000 in
set_option maxRecDepth 100000 in
theorem ct_m_narrow {w : Wd} (hij : ij LR w) (n : Nat) (x1 x2 : Int) (hx1 : inR x1) (hx2 : in64 x2) {M : Mm} {r : Int} {M9 : Mm} (hF : f_m_narrow n x1 x2 M = some (r, M9)) : Ct LR w y_m_narrow b_m_narrow 4 (some .long) 0 0 2 [.ref (wa w 0), .int (i32 x1), .long (i64 x2)] M r M9 := by
  refine Ct.of hij KstR (by decide +kernel) (Nat.le_of_ble_eq_true rfl) (fun X G0 => ?_)
  have G := G0.1
  show VJ LR w X 4 2 r M9 M [(0, .ref (wa w 0)), (1, .int (i32 x1)), (2, .long (i64 x2))] [] 0
  unfold f_m_narrow at hF
  refine vj_iload_n G (p9 := 1) d_m_narrow_0 rfl rfl ?_
  refine vj_if_ne G (tgt := 11) d_m_narrow_1 (by decide) hx1 (fun c1 => ?_) (fun c1 => ?_)
  · rw [if_pos c1] at hF
    refine vj_iload_n G (p9 := 1) d_m_narrow_11 rfl rfl ?_
    refine vj_iconst G (v := 1) d_m_narrow_12 rfl ?_
    refine vj_icmp_ne G (tgt := 23) d_m_narrow_13 (by decide) hx1 ic_1 (fun c2 => ?_) (fun c2 => ?_)
    · rw [if_pos c2] at hF
      refine vj_iload_n G (p9 := 1) d_m_narrow_23 rfl rfl ?_
      refine vj_iconst G (v := 2) d_m_narrow_24 rfl ?_
      refine vj_icmp_ne G (tgt := 34) d_m_narrow_25 (by decide) hx1 ic_2 (fun c3 => ?_) (fun c3 => ?_)
      · rw [if_pos c3] at hF
        refine vj_iload_n G (p9 := 1) d_m_narrow_34 rfl rfl ?_
        refine vj_iconst G (v := 4) d_m_narrow_35 rfl ?_
        refine vj_icmp_ne G (tgt := 53) d_m_narrow_36 (by decide) hx1 ic_4 (fun c4 => ?_) (fun c4 => ?_)
        · rw [if_pos c4] at hF
          refine vj_lload_n G (p9 := 2) d_m_narrow_53 rfl rfl ?_
          cases hF
          exact vj_lret G0 hx2 d_m_narrow_54
        · rw [if_neg c4] at hF
          refine vj_lload_n G (p9 := 2) d_m_narrow_39 rfl rfl ?_
          refine vj_lconst G (v := 0) d_m_narrow_40 rfl ?_
          refine vj_lcmp_eq G (tgt := 49) d_m_narrow_41 d_m_narrow_42 (by decide) hx2 (lr_i ic_0) (fun c5 => ?_) (fun c5 => ?_)
          · rw [if_pos c5] at hF
            refine vj_lconst G (v := 0) d_m_narrow_49 rfl ?_
            refine vj_goto G (tgt := 54) d_m_narrow_50 (by decide) ?_
            cases hF
            exact vj_lret G0 (lr_i ic_0) d_m_narrow_54
          · rw [if_neg c5] at hF
            refine vj_lconst G (v := 1) d_m_narrow_45 rfl ?_
            refine vj_goto G (tgt := 54) d_m_narrow_46 (by decide) ?_
            cases hF
            exact vj_lret G0 (lr_i ic_1) d_m_narrow_54
      · rw [if_neg c3] at hF
        refine vj_lload_n G (p9 := 2) d_m_narrow_28 rfl rfl ?_
        refine vj_l2i G d_m_narrow_29 ?_
        refine vj_i2l G d_m_narrow_30 (ir_w _) ?_
        refine vj_goto G (tgt := 54) d_m_narrow_31 (by decide) ?_
        cases hF
        exact vj_lret G0 (lr_i (ir_w _)) d_m_narrow_54
    · rw [if_neg c2] at hF
      refine vj_lload_n G (p9 := 2) d_m_narrow_16 rfl rfl ?_
      refine vj_l2i G d_m_narrow_17 ?_
      refine vj_i2s G d_m_narrow_18 ?_
      refine vj_i2l G d_m_narrow_19 (ir_w16 _) ?_
      refine vj_goto G (tgt := 54) d_m_narrow_20 (by decide) ?_
      cases hF
      exact vj_lret G0 (lr_i (ir_w16 _)) d_m_narrow_54
  · rw [if_neg c1] at hF
    refine vj_lload_n G (p9 := 2) d_m_narrow_4 rfl rfl ?_
    refine vj_l2i G d_m_narrow_5 ?_
    refine vj_i2b G d_m_narrow_6 ?_
    refine vj_i2l G d_m_narrow_7 (ir_w8 _) ?_
    refine vj_goto G (tgt := 54) d_m_narrow_8 (by decide) ?_
    cases hF
    exact vj_lret G0 (lr_i (ir_w8 _)) d_m_narrow_54
set_option maxHeartbeats 4000000 in
set_option maxRecDepth 100000 in
theorem ct_m_item {w : Wd} (hij : ij LR w) (n : Nat) (x1 x2 x3 : Int) (hx1 : inR x1) (hx2 : inR x2) (hx3 : in64 x3) {M : Mm} {r : Int} {M9 : Mm} (hF : f_m_item n x1 x2 x3 M = some (r, M9)) : Ct LR w y_m_item b_m_item 5 (some .int) 2 44 1 [.ref (wa w 0), .int (i32 x1), .int (i32 x2), .long (i64 x3)] M r M9 := by
  refine Ct.of hij KstR (by decide +kernel) (Nat.le_of_ble_eq_true rfl) (fun X G0 => ?_)
  have G := G0.1
  show VJ LR w X 5 1 r M9 M [(0, .ref (wa w 0)), (1, .int (i32 x1)), (2, .int (i32 x2)), (3, .long (i64 x3))] [] 0
  unfold f_m_item at hF
  refine vj_aload_n G (p9 := 0) d_m_item_0 rfl rfl ?_
  refine vj_iload_n G (p9 := 1) d_m_item_1 rfl rfl ?_
  obtain ⟨r1, M1, e1, hF⟩ := bnd_some hF
  refine vj_callV3 G (ct_m_isTape (gx_ij G) n x1 hx1 e1) lkR_0 clR_0 rfl q_1740 cq_m_isTape rfl (by decide) (by decide) (Nat.le_of_ble_eq_true rfl) d_m_item_2 rfl (fun hr1 => ?_)
  refine vj_if_ne G (tgt := 10) d_m_item_5 (by decide) (ir_b hr1) (fun c2 => ?_) (fun c2 => ?_)
  · rw [if_pos c2] at hF
    refine vj_aload_n G (p9 := 0) d_m_item_10 rfl rfl ?_
    refine gfR_m_234 G d_m_item_11 ?_
    refine vj_iload_n G (p9 := 1) d_m_item_14 rfl rfl ?_
    obtain ⟨c3, hF⟩ := ck_some hF
    refine vj_iald G (x := x1) lkR_47 (by decide) c3 d_m_item_15 ?_
    refine vj_mr (fun hM4 => ?_)
    refine vj_if_ge G (tgt := 22) d_m_item_16 (by decide) (mr_a hM4 lkR_47) (fun c5 => ?_) (fun c5 => ?_)
    · rw [if_pos c5] at hF
      refine vj_aload_n G (p9 := 0) d_m_item_22 rfl rfl ?_
      refine vj_iload_n G (p9 := 2) d_m_item_23 rfl rfl ?_
      refine vj_iconst G (v := 0) d_m_item_24 rfl ?_
      refine vj_aload_n G (p9 := 0) d_m_item_25 rfl rfl ?_
      refine gfR_m_237 G d_m_item_26 ?_
      refine vj_iload_n G (p9 := 1) d_m_item_29 rfl rfl ?_
      obtain ⟨c6, hF⟩ := ck_some hF
      refine vj_iald G (x := x1) lkR_48 (by decide) c6 d_m_item_30 ?_
      refine vj_mr (fun hM7 => ?_)
      refine vj_iconst G (v := 1) d_m_item_31 rfl ?_
      refine vj_isub G d_m_item_32 ?_
      obtain ⟨r8, M8, e8, hF⟩ := bnd_some hF
      refine vj_callV3 G (ct_m_in (gx_ij G) n x2 0 (w32 ((M1 48 x1.toNat) - 1)) hx2 ic_0 (ir_w _) e8) lkR_0 clR_0 rfl q_1543 cq_m_in rfl (by decide) (by decide) (Nat.le_of_ble_eq_true rfl) d_m_item_33 rfl (fun hr8 => ?_)
      refine vj_if_ne G (tgt := 42) d_m_item_36 (by decide) (ir_b hr8) (fun c9 => ?_) (fun c9 => ?_)
      · rw [if_pos c9] at hF
        refine vj_aload_n G (p9 := 0) d_m_item_42 rfl rfl ?_
        refine gfR_m_240 G d_m_item_43 ?_
        refine vj_bipush G (v := 60) d_m_item_46 rfl ?_
        refine vj_iload_n G (p9 := 1) d_m_item_48 rfl rfl ?_
        refine vj_imul G d_m_item_49 ?_
        refine vj_iload_n G (p9 := 2) d_m_item_50 rfl rfl ?_
        refine vj_iadd G d_m_item_51 ?_
        refine vj_aload_n G (p9 := 0) d_m_item_52 rfl rfl ?_
        refine vj_aload_n G (p9 := 0) d_m_item_53 rfl rfl ?_
        refine gfR_m_234 G d_m_item_54 ?_
        refine vj_iload_n G (p9 := 1) d_m_item_57 rfl rfl ?_
        obtain ⟨c10, hF⟩ := ck_some hF
        refine vj_iald G (x := x1) lkR_47 (by decide) c10 d_m_item_58 ?_
        refine vj_mr (fun hM11 => ?_)
        refine vj_lload_n G (p9 := 3) d_m_item_59 rfl rfl ?_
        obtain ⟨r12, M12, e12, hF⟩ := bnd_some hF
        refine vj_callV2 G (ct_m_narrow (gx_ij G) n (M8 47 x1.toNat) x3 (mr_a hM11 lkR_47) hx3 e12) lkR_0 clR_0 rfl q_1927 cq_m_narrow rfl (by decide) (by decide) (Nat.le_of_ble_eq_true rfl) d_m_item_60 rfl (fun hr12 => ?_)
        obtain ⟨c13, hF⟩ := ck_some hF
        refine vj_last G (x := w32 ((w32 (60 * x1)) + x2)) lkR_49 (by decide) (by decide) (by decide) c13 hr12 d_m_item_63 ?_
        refine vj_iconst G (v := 1) d_m_item_64 rfl ?_
        cases hF
        exact vj_iret G0 ic_1 d_m_item_65
      · rw [if_neg c9] at hF
        refine vj_bipush G (v := (-13)) d_m_item_39 rfl ?_
        cases hF
        exact vj_iret G0 ic_m13 d_m_item_41
    · rw [if_neg c5] at hF
      refine vj_bipush G (v := (-11)) d_m_item_19 rfl ?_
      cases hF
      exact vj_iret G0 ic_m11 d_m_item_21
  · rw [if_neg c2] at hF
    refine vj_iconst G (v := (-1)) d_m_item_8 rfl ?_
    cases hF
    exact vj_iret G0 ic_m1 d_m_item_9
set_option maxHeartbeats 4000000 in
set_option maxRecDepth 100000 in
theorem wk_m_read_34 {w : Wd} {X : Cx} {r : Int} {M9 : Mm} (G0 : Gx LR w X "WhoRulesModel" b_m_read 3 2 44 (some .long)) (n : Nat) (M : Mm) (hF : f_m_read_34 n  M = some (r, M9)) : VJ LR w X 3 2 r M9 M [] [] 34 := by
  have G := G0.1
  unfold f_m_read_34 at hF
  refine vj_ldc2 G (v := (-9223372036854775808)) d_m_read_34 q_1748 rfl ?_
  refine vj_goto G (tgt := 51) d_m_read_37 (by decide) ?_
  cases hF
  exact vj_lret G0 ⟨by decide, by decide⟩ d_m_read_51
set_option maxHeartbeats 4000000 in
set_option maxRecDepth 100000 in
theorem ct_m_read {w : Wd} (hij : ij LR w) (n : Nat) (x1 x2 : Int) (hx1 : inR x1) (hx2 : inR x2) {M : Mm} {r : Int} {M9 : Mm} (hF : f_m_read n x1 x2 M = some (r, M9)) : Ct LR w y_m_read b_m_read 3 (some .long) 2 44 2 [.ref (wa w 0), .int (i32 x1), .int (i32 x2)] M r M9 := by
  refine Ct.of hij KstR (by decide +kernel) (Nat.le_of_ble_eq_true rfl) (fun X G0 => ?_)
  have G := G0.1
  show VJ LR w X 3 2 r M9 M [(0, .ref (wa w 0)), (1, .int (i32 x1)), (2, .int (i32 x2))] [] 0
  unfold f_m_read at hF
  refine vj_aload_n G (p9 := 0) d_m_read_0 rfl rfl ?_
  refine vj_iload_n G (p9 := 1) d_m_read_1 rfl rfl ?_
  obtain ⟨r1, M1, e1, hF⟩ := bnd_some hF
  refine vj_callV3 G (ct_m_isTape (gx_ij G) n x1 hx1 e1) lkR_0 clR_0 rfl q_1740 cq_m_isTape rfl (by decide) (by decide) (Nat.le_of_ble_eq_true rfl) d_m_read_2 rfl (fun hr1 => ?_)
  refine vj_if_eq G (tgt := 34) d_m_read_5 (by decide) (ir_b hr1) (fun c2 => ?_) (fun c2 => ?_)
  · rw [if_pos c2] at hF
    refine vj_sub [] rfl ?_
    exact wk_m_read_34 G0 n    _ hF
  · rw [if_neg c2] at hF
    refine vj_aload_n G (p9 := 0) d_m_read_8 rfl rfl ?_
    refine gfR_m_234 G d_m_read_9 ?_
    refine vj_iload_n G (p9 := 1) d_m_read_12 rfl rfl ?_
    obtain ⟨c3, hF⟩ := ck_some hF
    refine vj_iald G (x := x1) lkR_47 (by decide) c3 d_m_read_13 ?_
    refine vj_mr (fun hM4 => ?_)
    refine vj_if_lt G (tgt := 34) d_m_read_14 (by decide) (mr_a hM4 lkR_47) (fun c5 => ?_) (fun c5 => ?_)
    · rw [if_pos c5] at hF
      refine vj_sub [] rfl ?_
      exact wk_m_read_34 G0 n    _ hF
    · rw [if_neg c5] at hF
      refine vj_aload_n G (p9 := 0) d_m_read_17 rfl rfl ?_
      refine vj_iload_n G (p9 := 2) d_m_read_18 rfl rfl ?_
      refine vj_iconst G (v := 0) d_m_read_19 rfl ?_
      refine vj_aload_n G (p9 := 0) d_m_read_20 rfl rfl ?_
      refine gfR_m_237 G d_m_read_21 ?_
      refine vj_iload_n G (p9 := 1) d_m_read_24 rfl rfl ?_
      obtain ⟨c6, hF⟩ := ck_some hF
      refine vj_iald G (x := x1) lkR_48 (by decide) c6 d_m_read_25 ?_
      refine vj_mr (fun hM7 => ?_)
      refine vj_iconst G (v := 1) d_m_read_26 rfl ?_
      refine vj_isub G d_m_read_27 ?_
      obtain ⟨r8, M8, e8, hF⟩ := bnd_some hF
      refine vj_callV3 G (ct_m_in (gx_ij G) n x2 0 (w32 ((M1 48 x1.toNat) - 1)) hx2 ic_0 (ir_w _) e8) lkR_0 clR_0 rfl q_1543 cq_m_in rfl (by decide) (by decide) (Nat.le_of_ble_eq_true rfl) d_m_read_28 rfl (fun hr8 => ?_)
      refine vj_if_ne G (tgt := 40) d_m_read_31 (by decide) (ir_b hr8) (fun c9 => ?_) (fun c9 => ?_)
      · rw [if_pos c9] at hF
        refine vj_aload_n G (p9 := 0) d_m_read_40 rfl rfl ?_
        refine gfR_m_240 G d_m_read_41 ?_
        refine vj_bipush G (v := 60) d_m_read_44 rfl ?_
        refine vj_iload_n G (p9 := 1) d_m_read_46 rfl rfl ?_
        refine vj_imul G d_m_read_47 ?_
        refine vj_iload_n G (p9 := 2) d_m_read_48 rfl rfl ?_
        refine vj_iadd G d_m_read_49 ?_
        obtain ⟨c10, hF⟩ := ck_some hF
        refine vj_lald G (x := w32 ((w32 (60 * x1)) + x2)) lkR_49 (by decide) c10 d_m_read_50 ?_
        refine vj_mr (fun hM11 => ?_)
        cases hF
        exact vj_lret G0 (mr_al hM11 lkR_49) d_m_read_51
      · rw [if_neg c9] at hF
        refine vj_sub [] rfl ?_
        exact wk_m_read_34 G0 n    _ hF
set_option maxHeartbeats 4000000 in
set_option maxRecDepth 100000 in
theorem wk_m_shift_141 {w : Wd} {X : Cx} {r : Int} {M9 : Mm} (G0 : Gx LR w X "WhoRulesModel" b_m_shift 7 2 44 (some .int)) (n : Nat) (k141 : Int → Int → Int → Int → Mm → Rr) (hk141 : ∀ (x3 x4 x5 x6 : Int) (hx3 : inR x3) (hx4 : inR x4) (hx5 : inR x5) (hx6 : inR x6) (M : Mm), k141 x3 x4 x5 x6 M = some (r, M9) → VJ LR w X 7 1 r M9 M [(0, .ref (wa w 0)), (3, .int (i32 x3)), (4, .int (i32 x4)), (5, .int (i32 x5)), (6, .int (i32 x6))] [] 141) (x3 x4 x5 x6 : Int) (hx3 : inR x3) (hx4 : inR x4) (hx5 : inR x5) (hx6 : inR x6) (M : Mm) (hF : f_m_shift_141 n k141 x3 x4 x5 x6 M = some (r, M9)) : VJ LR w X 7 1 r M9 M [(0, .ref (wa w 0)), (3, .int (i32 x3)), (4, .int (i32 x4)), (5, .int (i32 x5)), (6, .int (i32 x6))] [] 141 := by
  have G := G0.1
  unfold f_m_shift_141 at hF
  refine vj_iload G (p9 := 4) d_m_shift_141 rfl ?_
  refine vj_iload G (p9 := 3) d_m_shift_143 rfl ?_
  refine vj_icmp_ge G (tgt := 176) d_m_shift_145 (by decide) hx6 hx5 (fun c1 => ?_) (fun c1 => ?_)
  · rw [if_pos c1] at hF
    refine vj_iload G (p9 := 3) d_m_shift_176 rfl ?_
    cases hF
    exact vj_iret G0 hx5 d_m_shift_178
  · rw [if_neg c1] at hF
    refine vj_aload_n G (p9 := 0) d_m_shift_148 rfl rfl ?_
    refine gfR_m_240 G d_m_shift_149 ?_
    refine vj_bipush G (v := 60) d_m_shift_152 rfl ?_
    refine vj_iload_n G (p9 := 1) d_m_shift_154 rfl rfl ?_
    refine vj_imul G d_m_shift_155 ?_
    refine vj_iload G (p9 := 2) d_m_shift_156 rfl ?_
    refine vj_iadd G d_m_shift_158 ?_
    refine vj_iload G (p9 := 4) d_m_shift_159 rfl ?_
    refine vj_iadd G d_m_shift_161 ?_
    refine vj_aload_n G (p9 := 0) d_m_shift_162 rfl rfl ?_
    refine gfR_m_243 G d_m_shift_163 ?_
    refine vj_iload G (p9 := 4) d_m_shift_166 rfl ?_
    obtain ⟨c2, hF⟩ := ck_some hF
    refine vj_lald G (x := x6) lkR_50 (by decide) c2 d_m_shift_168 ?_
    refine vj_mr (fun hM3 => ?_)
    obtain ⟨c4, hF⟩ := ck_some hF
    refine vj_last G (x := w32 ((w32 ((w32 (60 * x3)) + x4)) + x6)) lkR_49 (by decide) (by decide) (by decide) c4 (mr_al hM3 lkR_50) d_m_shift_169 ?_
    refine vj_iinc G (p9 := 4) (n := 1) (lv2 := [(6, .int (i32 (w32 (x6 + 1)))), (0, .ref (wa w 0)), (3, .int (i32 x3)), (4, .int (i32 x4)), (5, .int (i32 x5))]) d_m_shift_170 rfl (by decide) rfl ?_
    refine vj_goto G (tgt := 141) d_m_shift_173 (by decide) ?_
    refine vj_sub [1, 2, 3, 4, 0] rfl ?_
    exact hk141 x3 x4 x5 (w32 (x6 + 1)) hx3 hx4 hx5 (ir_w _) _ hF
set_option maxHeartbeats 4000000 in
set_option maxRecDepth 100000 in
theorem wl_m_shift_141 {w : Wd} {X : Cx} {r : Int} {M9 : Mm} (G0 : Gx LR w X "WhoRulesModel" b_m_shift 7 2 44 (some .int)) (n : Nat) : ∀ (f : Nat) (x3 x4 x5 x6 : Int) (hx3 : inR x3) (hx4 : inR x4) (hx5 : inR x5) (hx6 : inR x6) (M : Mm), lp_m_shift_141 n f x3 x4 x5 x6 M = some (r, M9) → VJ LR w X 7 1 r M9 M [(0, .ref (wa w 0)), (3, .int (i32 x3)), (4, .int (i32 x4)), (5, .int (i32 x5)), (6, .int (i32 x6))] [] 141 := by
  intro f
  induction f with
  | zero => intro x3 x4 x5 x6 hx3 hx4 hx5 hx6 M hF; cases hF
  | succ f ih => intro x3 x4 x5 x6 hx3 hx4 hx5 hx6 M hF; exact wk_m_shift_141 G0 n (lp_m_shift_141 n f) ih x3 x4 x5 x6 hx3 hx4 hx5 hx6 M hF
set_option maxHeartbeats 4000000 in
set_option maxRecDepth 100000 in
theorem wk_m_shift_104 {w : Wd} {X : Cx} {r : Int} {M9 : Mm} (G0 : Gx LR w X "WhoRulesModel" b_m_shift 7 2 44 (some .int)) (n : Nat) (k104 : Int → Int → Int → Int → Int → Int → Mm → Rr) (hk104 : ∀ (x1 x2 x3 x4 x5 x6 : Int) (hx1 : inR x1) (hx2 : inR x2) (hx3 : inR x3) (hx4 : inR x4) (hx5 : inR x5) (hx6 : inR x6) (M : Mm), k104 x1 x2 x3 x4 x5 x6 M = some (r, M9) → VJ LR w X 7 1 r M9 M [(0, .ref (wa w 0)), (1, .int (i32 x1)), (2, .int (i32 x2)), (3, .int (i32 x3)), (4, .int (i32 x4)), (5, .int (i32 x5)), (6, .int (i32 x6))] [] 104) (x1 x2 x3 x4 x5 x6 : Int) (hx1 : inR x1) (hx2 : inR x2) (hx3 : inR x3) (hx4 : inR x4) (hx5 : inR x5) (hx6 : inR x6) (M : Mm) (hF : f_m_shift_104 n k104 x1 x2 x3 x4 x5 x6 M = some (r, M9)) : VJ LR w X 7 1 r M9 M [(0, .ref (wa w 0)), (1, .int (i32 x1)), (2, .int (i32 x2)), (3, .int (i32 x3)), (4, .int (i32 x4)), (5, .int (i32 x5)), (6, .int (i32 x6))] [] 104 := by
  have G := G0.1
  unfold f_m_shift_104 at hF
  refine vj_iload G (p9 := 6) d_m_shift_104 rfl ?_
  refine vj_iload G (p9 := 5) d_m_shift_106 rfl ?_
  refine vj_icmp_ge G (tgt := 138) d_m_shift_108 (by decide) hx6 hx5 (fun c1 => ?_) (fun c1 => ?_)
  · rw [if_pos c1] at hF
    refine vj_iconst G (v := 0) d_m_shift_138 rfl ?_
    refine vj_istore G (lv2 := [(6, .int (i32 0)), (0, .ref (wa w 0)), (1, .int (i32 x1)), (2, .int (i32 x2)), (3, .int (i32 x3)), (4, .int (i32 x4)), (5, .int (i32 x5))]) d_m_shift_139 (by decide) rfl ?_
    refine vj_sub [1, 4, 5, 6, 0] rfl ?_
    exact wl_m_shift_141 G0 n  n x3 x4 x5 0 hx3 hx4 hx5 ic_0 _ hF
  · rw [if_neg c1] at hF
    refine vj_aload_n G (p9 := 0) d_m_shift_111 rfl rfl ?_
    refine gfR_m_243 G d_m_shift_112 ?_
    refine vj_iload G (p9 := 6) d_m_shift_115 rfl ?_
    refine vj_aload_n G (p9 := 0) d_m_shift_117 rfl rfl ?_
    refine gfR_m_240 G d_m_shift_118 ?_
    refine vj_bipush G (v := 60) d_m_shift_121 rfl ?_
    refine vj_iload_n G (p9 := 1) d_m_shift_123 rfl rfl ?_
    refine vj_imul G d_m_shift_124 ?_
    refine vj_iload_n G (p9 := 2) d_m_shift_125 rfl rfl ?_
    refine vj_iadd G d_m_shift_126 ?_
    refine vj_iload G (p9 := 6) d_m_shift_127 rfl ?_
    refine vj_iadd G d_m_shift_129 ?_
    obtain ⟨c2, hF⟩ := ck_some hF
    refine vj_lald G (x := w32 ((w32 ((w32 (60 * x1)) + x2)) + x6)) lkR_49 (by decide) c2 d_m_shift_130 ?_
    refine vj_mr (fun hM3 => ?_)
    obtain ⟨c4, hF⟩ := ck_some hF
    refine vj_last G (x := x6) lkR_50 (by decide) (by decide) (by decide) c4 (mr_al hM3 lkR_49) d_m_shift_131 ?_
    refine vj_iinc G (p9 := 6) (n := 1) (lv2 := [(6, .int (i32 (w32 (x6 + 1)))), (0, .ref (wa w 0)), (1, .int (i32 x1)), (2, .int (i32 x2)), (3, .int (i32 x3)), (4, .int (i32 x4)), (5, .int (i32 x5))]) d_m_shift_132 rfl (by decide) rfl ?_
    refine vj_goto G (tgt := 104) d_m_shift_135 (by decide) ?_
    refine vj_sub [1, 2, 3, 4, 5, 6, 0] rfl ?_
    exact hk104 x1 x2 x3 x4 x5 (w32 (x6 + 1)) hx1 hx2 hx3 hx4 hx5 (ir_w _) _ hF
set_option maxHeartbeats 4000000 in
set_option maxRecDepth 100000 in
theorem wl_m_shift_104 {w : Wd} {X : Cx} {r : Int} {M9 : Mm} (G0 : Gx LR w X "WhoRulesModel" b_m_shift 7 2 44 (some .int)) (n : Nat) : ∀ (f : Nat) (x1 x2 x3 x4 x5 x6 : Int) (hx1 : inR x1) (hx2 : inR x2) (hx3 : inR x3) (hx4 : inR x4) (hx5 : inR x5) (hx6 : inR x6) (M : Mm), lp_m_shift_104 n f x1 x2 x3 x4 x5 x6 M = some (r, M9) → VJ LR w X 7 1 r M9 M [(0, .ref (wa w 0)), (1, .int (i32 x1)), (2, .int (i32 x2)), (3, .int (i32 x3)), (4, .int (i32 x4)), (5, .int (i32 x5)), (6, .int (i32 x6))] [] 104 := by
  intro f
  induction f with
  | zero => intro x1 x2 x3 x4 x5 x6 hx1 hx2 hx3 hx4 hx5 hx6 M hF; cases hF
  | succ f ih => intro x1 x2 x3 x4 x5 x6 hx1 hx2 hx3 hx4 hx5 hx6 M hF; exact wk_m_shift_104 G0 n (lp_m_shift_104 n f) ih x1 x2 x3 x4 x5 x6 hx1 hx2 hx3 hx4 hx5 hx6 M hF
set_option maxHeartbeats 4000000 in
set_option maxRecDepth 100000 in
theorem ct_m_shift {w : Wd} (hij : ij LR w) (n : Nat) (x1 x2 x3 x4 x5 : Int) (hx1 : inR x1) (hx2 : inR x2) (hx3 : inR x3) (hx4 : inR x4) (hx5 : inR x5) {M : Mm} {r : Int} {M9 : Mm} (hF : f_m_shift n x1 x2 x3 x4 x5 M = some (r, M9)) : Ct LR w y_m_shift b_m_shift 7 (some .int) 2 44 1 [.ref (wa w 0), .int (i32 x1), .int (i32 x2), .int (i32 x3), .int (i32 x4), .int (i32 x5)] M r M9 := by
  refine Ct.of hij KstR (by decide +kernel) (Nat.le_of_ble_eq_true rfl) (fun X G0 => ?_)
  have G := G0.1
  show VJ LR w X 7 1 r M9 M [(0, .ref (wa w 0)), (1, .int (i32 x1)), (2, .int (i32 x2)), (3, .int (i32 x3)), (4, .int (i32 x4)), (5, .int (i32 x5))] [] 0
  unfold f_m_shift at hF
  refine vj_aload_n G (p9 := 0) d_m_shift_0 rfl rfl ?_
  refine vj_iload_n G (p9 := 1) d_m_shift_1 rfl rfl ?_
  obtain ⟨r1, M1, e1, hF⟩ := bnd_some hF
  refine vj_callV3 G (ct_m_isTape (gx_ij G) n x1 hx1 e1) lkR_0 clR_0 rfl q_1740 cq_m_isTape rfl (by decide) (by decide) (Nat.le_of_ble_eq_true rfl) d_m_shift_2 rfl (fun hr1 => ?_)
  refine vj_if_eq G (tgt := 16) d_m_shift_5 (by decide) (ir_b hr1) (fun c2 => ?_) (fun c2 => ?_)
  · rw [if_pos c2] at hF
    refine vj_iconst G (v := (-1)) d_m_shift_16 rfl ?_
    cases hF
    exact vj_iret G0 ic_m1 d_m_shift_17
  · rw [if_neg c2] at hF
    refine vj_aload_n G (p9 := 0) d_m_shift_8 rfl rfl ?_
    refine vj_iload_n G (p9 := 3) d_m_shift_9 rfl rfl ?_
    obtain ⟨r3, M3, e3, hF⟩ := bnd_some hF
    refine vj_callV3 G (ct_m_isTape (gx_ij G) n x3 hx3 e3) lkR_0 clR_0 rfl q_1740 cq_m_isTape rfl (by decide) (by decide) (Nat.le_of_ble_eq_true rfl) d_m_shift_10 rfl (fun hr3 => ?_)
    refine vj_if_ne G (tgt := 18) d_m_shift_13 (by decide) (ir_b hr3) (fun c4 => ?_) (fun c4 => ?_)
    · rw [if_pos c4] at hF
      refine vj_aload_n G (p9 := 0) d_m_shift_18 rfl rfl ?_
      refine gfR_m_234 G d_m_shift_19 ?_
      refine vj_iload_n G (p9 := 1) d_m_shift_22 rfl rfl ?_
      obtain ⟨c5, hF⟩ := ck_some hF
      refine vj_iald G (x := x1) lkR_47 (by decide) c5 d_m_shift_23 ?_
      refine vj_mr (fun hM6 => ?_)
      refine vj_if_lt G (tgt := 36) d_m_shift_24 (by decide) (mr_a hM6 lkR_47) (fun c7 => ?_) (fun c7 => ?_)
      · rw [if_pos c7] at hF
        refine vj_bipush G (v := (-11)) d_m_shift_36 rfl ?_
        cases hF
        exact vj_iret G0 ic_m11 d_m_shift_38
      · rw [if_neg c7] at hF
        refine vj_aload_n G (p9 := 0) d_m_shift_27 rfl rfl ?_
        refine gfR_m_234 G d_m_shift_28 ?_
        refine vj_iload_n G (p9 := 3) d_m_shift_31 rfl rfl ?_
        obtain ⟨c8, hF⟩ := ck_some hF
        refine vj_iald G (x := x3) lkR_47 (by decide) c8 d_m_shift_32 ?_
        refine vj_mr (fun hM9 => ?_)
        refine vj_if_ge G (tgt := 39) d_m_shift_33 (by decide) (mr_a hM9 lkR_47) (fun c10 => ?_) (fun c10 => ?_)
        · rw [if_pos c10] at hF
          refine vj_aload_n G (p9 := 0) d_m_shift_39 rfl rfl ?_
          refine gfR_m_234 G d_m_shift_40 ?_
          refine vj_iload_n G (p9 := 1) d_m_shift_43 rfl rfl ?_
          obtain ⟨c11, hF⟩ := ck_some hF
          refine vj_iald G (x := x1) lkR_47 (by decide) c11 d_m_shift_44 ?_
          refine vj_mr (fun hM12 => ?_)
          refine vj_aload_n G (p9 := 0) d_m_shift_45 rfl rfl ?_
          refine gfR_m_234 G d_m_shift_46 ?_
          refine vj_iload_n G (p9 := 3) d_m_shift_49 rfl rfl ?_
          obtain ⟨c13, hF⟩ := ck_some hF
          refine vj_iald G (x := x3) lkR_47 (by decide) c13 d_m_shift_50 ?_
          refine vj_icmp_eq G (tgt := 57) d_m_shift_51 (by decide) (mr_a hM12 lkR_47) (mr_a hM12 lkR_47) (fun c14 => ?_) (fun c14 => ?_)
          · rw [if_pos c14] at hF
            refine vj_iload G (p9 := 5) d_m_shift_57 rfl ?_
            refine vj_if_lt G (tgt := 98) d_m_shift_59 (by decide) hx5 (fun c15 => ?_) (fun c15 => ?_)
            · rw [if_pos c15] at hF
              refine vj_bipush G (v := (-13)) d_m_shift_98 rfl ?_
              cases hF
              exact vj_iret G0 ic_m13 d_m_shift_100
            · rw [if_neg c15] at hF
              refine vj_iload_n G (p9 := 2) d_m_shift_62 rfl rfl ?_
              refine vj_if_lt G (tgt := 98) d_m_shift_63 (by decide) hx2 (fun c16 => ?_) (fun c16 => ?_)
              · rw [if_pos c16] at hF
                refine vj_bipush G (v := (-13)) d_m_shift_98 rfl ?_
                cases hF
                exact vj_iret G0 ic_m13 d_m_shift_100
              · rw [if_neg c16] at hF
                refine vj_iload G (p9 := 4) d_m_shift_66 rfl ?_
                refine vj_if_lt G (tgt := 98) d_m_shift_68 (by decide) hx4 (fun c17 => ?_) (fun c17 => ?_)
                · rw [if_pos c17] at hF
                  refine vj_bipush G (v := (-13)) d_m_shift_98 rfl ?_
                  cases hF
                  exact vj_iret G0 ic_m13 d_m_shift_100
                · rw [if_neg c17] at hF
                  refine vj_iload_n G (p9 := 2) d_m_shift_71 rfl rfl ?_
                  refine vj_aload_n G (p9 := 0) d_m_shift_72 rfl rfl ?_
                  refine gfR_m_237 G d_m_shift_73 ?_
                  refine vj_iload_n G (p9 := 1) d_m_shift_76 rfl rfl ?_
                  obtain ⟨c18, hF⟩ := ck_some hF
                  refine vj_iald G (x := x1) lkR_48 (by decide) c18 d_m_shift_77 ?_
                  refine vj_mr (fun hM19 => ?_)
                  refine vj_iload G (p9 := 5) d_m_shift_78 rfl ?_
                  refine vj_isub G d_m_shift_80 ?_
                  refine vj_icmp_gt G (tgt := 98) d_m_shift_81 (by decide) hx2 (ir_w _) (fun c20 => ?_) (fun c20 => ?_)
                  · rw [if_pos c20] at hF
                    refine vj_bipush G (v := (-13)) d_m_shift_98 rfl ?_
                    cases hF
                    exact vj_iret G0 ic_m13 d_m_shift_100
                  · rw [if_neg c20] at hF
                    refine vj_iload G (p9 := 4) d_m_shift_84 rfl ?_
                    refine vj_aload_n G (p9 := 0) d_m_shift_86 rfl rfl ?_
                    refine gfR_m_237 G d_m_shift_87 ?_
                    refine vj_iload_n G (p9 := 3) d_m_shift_90 rfl rfl ?_
                    obtain ⟨c21, hF⟩ := ck_some hF
                    refine vj_iald G (x := x3) lkR_48 (by decide) c21 d_m_shift_91 ?_
                    refine vj_mr (fun hM22 => ?_)
                    refine vj_iload G (p9 := 5) d_m_shift_92 rfl ?_
                    refine vj_isub G d_m_shift_94 ?_
                    refine vj_icmp_le G (tgt := 101) d_m_shift_95 (by decide) hx4 (ir_w _) (fun c23 => ?_) (fun c23 => ?_)
                    · rw [if_pos c23] at hF
                      refine vj_iconst G (v := 0) d_m_shift_101 rfl ?_
                      refine vj_istore G (lv2 := [(6, .int (i32 0)), (0, .ref (wa w 0)), (1, .int (i32 x1)), (2, .int (i32 x2)), (3, .int (i32 x3)), (4, .int (i32 x4)), (5, .int (i32 x5))]) d_m_shift_102 (by decide) rfl ?_
                      refine vj_sub [1, 2, 3, 4, 5, 6, 0] rfl ?_
                      exact wl_m_shift_104 G0 n  n x1 x2 x3 x4 x5 0 hx1 hx2 hx3 hx4 hx5 ic_0 _ hF
                    · rw [if_neg c23] at hF
                      refine vj_bipush G (v := (-13)) d_m_shift_98 rfl ?_
                      cases hF
                      exact vj_iret G0 ic_m13 d_m_shift_100
          · rw [if_neg c14] at hF
            refine vj_bipush G (v := (-12)) d_m_shift_54 rfl ?_
            cases hF
            exact vj_iret G0 ic_m12 d_m_shift_56
        · rw [if_neg c10] at hF
          refine vj_bipush G (v := (-11)) d_m_shift_36 rfl ?_
          cases hF
          exact vj_iret G0 ic_m11 d_m_shift_38
    · rw [if_neg c4] at hF
      refine vj_iconst G (v := (-1)) d_m_shift_16 rfl ?_
      cases hF
      exact vj_iret G0 ic_m1 d_m_shift_17
