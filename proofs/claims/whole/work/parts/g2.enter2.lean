/-! Register.enter; WhoRules.holder: their walks. -/
section
variable {w w' : Wd} {X : Cx} {M M9 : Mm} {r : Int}
def HE (w' : Wd) (X : Cx) (cc : ByteArray) (nL : Nat) : Prop := ∀ (v : Int) (M : Mm) (lv : List (Nat × Value)) (pc : Nat), inR v → decode cc pc = .ok (.ireturn, 1) → VJ LC w' X nL 1 v M M lv [.int (i32 v)] pc
set_option maxHeartbeats 4000000 in
set_option maxRecDepth 100000 in
theorem we_115 (G : Gc LC w' X "WhoRules$Register" b_R_enter 5 5 112) (hE : HE w' X b_R_enter 5) (n : Nat) (x1 x2 h : Int) (hx1 : inR x1) (hx2 : inR x2) (hh : inR h) (hF : f_R_enter_115 n h M = some (r, M9)) : VJ LC w' X 5 1 r M9 M [(4, .int (i32 h)), (0, .ref (wa w' 1)), (1, .int (i32 x1)), (2, .int (i32 x2)), (3, .ref (wa w' 10))] [] 115 := by
  unfold f_R_enter_115 at hF
  refine vj_aload_n G (p9 := 1) d_R_enter_115 rfl rfl ?_
  refine vj_iload G (p9 := 0) d_R_enter_116 rfl ?_
  obtain ⟨r1, N1, e1, hF⟩ := bnd_some hF
  refine vj_callV3 G (ct_R_isRuler (gx_ij G) n h hh e1) lkC_1 clC_7 rfl q_576 cq_R_isRuler rfl (by decide) (by decide) (Nat.le_of_ble_eq_true rfl) d_R_enter_118 rfl (fun hr1 => ?_)
  refine vj_if_eq G (tgt := 145) d_R_enter_121 (by decide) (ir_b hr1) (fun c1 => ?_) (fun c1 => ?_)
  · rw [if_pos c1] at hF
    cases hF
    refine vj_iload G (p9 := 0) d_R_enter_145 rfl ?_
    exact hE _ _ _ _ hh d_R_enter_147
  · rw [if_neg c1] at hF
    obtain ⟨c2, hF⟩ := ck_some hF
    refine vj_aload_n G (p9 := 1) d_R_enter_124 rfl rfl ?_
    refine vj_getf G lkC_1 clC_7 inC_7 (j := 9) (by decide) q_179 rfl (fvs_get flC_7_9) d_R_enter_125 ?_
    refine vj_aload_n G (p9 := 1) d_R_enter_128 rfl rfl ?_
    refine vj_getf G lkC_1 clC_7 inC_7 (j := 3) (by decide) q_161 rfl (fvs_get flC_7_3) d_R_enter_129 ?_
    refine vj_iload G (p9 := 0) d_R_enter_132 rfl ?_
    refine vj_iast G (x := (N1 1 3)) lkC_20 (by decide) (by decide) (by decide) c2 hh d_R_enter_134 ?_
    refine vj_aload_n G (p9 := 1) d_R_enter_135 rfl rfl ?_
    refine vj_dup G d_R_enter_136 rfl ?_
    refine vj_getf G lkC_1 clC_7 inC_7 (j := 3) (by decide) q_161 rfl (fvs_get flC_7_3) d_R_enter_137 ?_
    refine vj_iconst G (v := 1) d_R_enter_140 rfl ?_
    refine vj_iadd G d_R_enter_141 ?_
    refine vj_putf G lkC_1 (by decide) (by decide) clC_7 inC_7 toC_7 nmC_7 (j := 3) (by decide) q_161 rfl rfl (ty := .int) (by decide +kernel) rfl rfl rfl (fun c hc => by cases hc; rfl) (ir_w _) d_R_enter_142 ?_
    cases hF
    refine vj_iload G (p9 := 0) d_R_enter_145 rfl ?_
    exact hE _ _ _ _ hh d_R_enter_147
set_option maxHeartbeats 4000000 in
set_option maxRecDepth 100000 in
theorem we_89 (G : Gc LC w' X "WhoRules$Register" b_R_enter 5 5 112) (hE : HE w' X b_R_enter 5) (n : Nat) (x1 x2 h : Int) (hx1 : inR x1) (hx2 : inR x2) (hh : inR h) (hF : f_R_enter_89 n x1 h M = some (r, M9)) : VJ LC w' X 5 1 r M9 M [(4, .int (i32 h)), (0, .ref (wa w' 1)), (1, .int (i32 x1)), (2, .int (i32 x2)), (3, .ref (wa w' 10))] [] 89 := by
  unfold f_R_enter_89 at hF
  refine vj_iload_n G (p9 := 2) d_R_enter_89 rfl rfl ?_
  refine vj_iconst G (v := 1) d_R_enter_90 rfl ?_
  refine vj_icmp_ne G (tgt := 115) d_R_enter_91 (by decide) hx1 ic_1 (fun c1 => ?_) (fun c1 => ?_)
  · rw [if_pos c1] at hF
    exact we_115 G hE n x1 x2 h hx1 hx2 hh hF
  · rw [if_neg c1] at hF
    obtain ⟨c2, hF⟩ := ck_some hF
    refine vj_aload_n G (p9 := 1) d_R_enter_94 rfl rfl ?_
    refine vj_getf G lkC_1 clC_7 inC_7 (j := 8) (by decide) q_175 rfl (fvs_get flC_7_8) d_R_enter_95 ?_
    refine vj_aload_n G (p9 := 1) d_R_enter_98 rfl rfl ?_
    refine vj_getf G lkC_1 clC_7 inC_7 (j := 2) (by decide) q_158 rfl (fvs_get flC_7_2) d_R_enter_99 ?_
    refine vj_iload G (p9 := 0) d_R_enter_102 rfl ?_
    refine vj_iast G (x := (M 1 2)) lkC_19 (by decide) (by decide) (by decide) c2 hh d_R_enter_104 ?_
    refine vj_aload_n G (p9 := 1) d_R_enter_105 rfl rfl ?_
    refine vj_dup G d_R_enter_106 rfl ?_
    refine vj_getf G lkC_1 clC_7 inC_7 (j := 2) (by decide) q_158 rfl (fvs_get flC_7_2) d_R_enter_107 ?_
    refine vj_iconst G (v := 1) d_R_enter_110 rfl ?_
    refine vj_iadd G d_R_enter_111 ?_
    refine vj_putf G lkC_1 (by decide) (by decide) clC_7 inC_7 toC_7 nmC_7 (j := 2) (by decide) q_158 rfl rfl (ty := .int) (by decide +kernel) rfl rfl rfl (fun c hc => by cases hc; rfl) (ir_w _) d_R_enter_112 ?_
    exact we_115 G hE n x1 x2 h hx1 hx2 hh hF
set_option maxHeartbeats 4000000 in
set_option maxRecDepth 100000 in
theorem we_78 (G : Gc LC w' X "WhoRules$Register" b_R_enter 5 5 112) (hE : HE w' X b_R_enter 5) (n : Nat) (x1 x2 h v : Int) (hx1 : inR x1) (hx2 : inR x2) (hh : inR h) (hv : inR v) (hF : f_R_enter_78 n x1 h v M = some (r, M9)) : VJ LC w' X 5 1 r M9 M [(4, .int (i32 h)), (0, .ref (wa w' 1)), (1, .int (i32 x1)), (2, .int (i32 x2)), (3, .ref (wa w' 10))] [.int (i32 v), .int (i32 h), .ref (wa w' 18)] 78 := by
  unfold f_R_enter_78 at hF
  obtain ⟨c2, hF⟩ := ck_some hF
  refine vj_iast G (x := h) lkC_18 (by decide) (by decide) (by decide) c2 hv d_R_enter_78 ?_
  refine vj_aload_n G (p9 := 1) d_R_enter_79 rfl rfl ?_
  refine vj_dup G d_R_enter_80 rfl ?_
  refine vj_getf G lkC_1 clC_7 inC_7 (j := 1) (by decide) q_150 rfl (fvs_get flC_7_1) d_R_enter_81 ?_
  refine vj_iconst G (v := 1) d_R_enter_84 rfl ?_
  refine vj_iadd G d_R_enter_85 ?_
  refine vj_putf G lkC_1 (by decide) (by decide) clC_7 inC_7 toC_7 nmC_7 (j := 1) (by decide) q_150 rfl rfl (ty := .int) (by decide +kernel) rfl rfl rfl (fun c hc => by cases hc; rfl) (ir_w _) d_R_enter_86 ?_
  exact we_89 G hE n x1 x2 h hx1 hx2 hh hF
set_option maxHeartbeats 4000000 in
set_option maxRecDepth 100000 in
theorem we_47 (G : Gc LC w' X "WhoRules$Register" b_R_enter 5 5 112) (hE : HE w' X b_R_enter 5) (n : Nat) (x1 x2 h : Int) (hx1 : inR x1) (hx2 : inR x2) (hh : inR h) (hF : f_R_enter_47 n x1 x2 h M = some (r, M9)) : VJ LC w' X 5 1 r M9 M [(4, .int (i32 h)), (0, .ref (wa w' 1)), (1, .int (i32 x1)), (2, .int (i32 x2)), (3, .ref (wa w' 10))] [] 47 := by
  unfold f_R_enter_47 at hF
  obtain ⟨c2, hF⟩ := ck_some hF
  refine vj_aload_n G (p9 := 1) d_R_enter_47 rfl rfl ?_
  refine gfC_R_17 G d_R_enter_48 ?_
  refine vj_iload G (p9 := 0) d_R_enter_51 rfl ?_
  refine vj_iload_n G (p9 := 2) d_R_enter_53 rfl rfl ?_
  refine vj_iast G (x := h) lkC_17 (by decide) (by decide) (by decide) c2 hx1 d_R_enter_54 ?_
  refine vj_aload_n G (p9 := 1) d_R_enter_55 rfl rfl ?_
  refine gfC_R_21 G d_R_enter_56 ?_
  refine vj_iload G (p9 := 0) d_R_enter_59 rfl ?_
  refine vj_iload_n G (p9 := 2) d_R_enter_61 rfl rfl ?_
  refine vj_iconst G (v := 3) d_R_enter_62 rfl ?_
  refine vj_icmp_ne G (tgt := 76) d_R_enter_63 (by decide) hx1 ic_3 (fun c1 => ?_) (fun c1 => ?_)
  · rw [if_pos c1] at hF
    refine vj_iload G (p9 := 0) d_R_enter_76 rfl ?_
    exact we_78 G hE n x1 x2 h h hx1 hx2 hh hh hF
  · rw [if_neg c1] at hF
    obtain ⟨r1, N1, e1, hF⟩ := bnd_some hF
    refine vj_aload_n G (p9 := 1) d_R_enter_66 rfl rfl ?_
    refine vj_iload_n G (p9 := 3) d_R_enter_67 rfl rfl ?_
    refine vj_iload G (p9 := 0) d_R_enter_68 rfl ?_
    refine vj_callV1 G (ct_R_headOf (gx_ij G) n x2 h hx2 hh e1) lkC_1 clC_7 rfl q_572 cq_R_headOf rfl (by decide) (by decide) (Nat.le_of_ble_eq_true rfl) d_R_enter_70 rfl (fun hr1 => ?_)
    refine vj_goto G (tgt := 78) d_R_enter_73 (by decide) ?_
    exact we_78 G hE n x1 x2 h r1 hx1 hx2 hh hr1 hF
set_option maxHeartbeats 4000000 in
set_option maxRecDepth 100000 in
theorem we_26 (hij : ij (LHd 0 0) w) (GX : GH w X "WhoRules$Register" b_R_enter 5 5 112) (n : Nat) (x1 x2 : Int) (hx1 : inR x1) (hx2 : inR x2) (hF : f_R_enter_26 n x1 x2 M = some (r, M9)) : VJ LHy w X 5 1 r M9 M [(0, .ref (wa w 1)), (1, .int (i32 x1)), (2, .int (i32 x2)), (3, .ref (wa w 10))] [] 26 := by
  have G := GX.1
  unfold f_R_enter_26 at hF
  obtain ⟨⟨c1, c2, c3, c4⟩, hF⟩ := ck_some hF
  obtain ⟨c, rfl⟩ : ∃ c : Nat, x1 = (c : Int) := ⟨x1.toNat, (Int.toNat_of_nonneg c3.1).symm⟩
  have hc : c < 6 := by omega
  refine vj_wr (fun h16 _ _ => ?_)
  have h16 : M 16 0 = wn w := h16
  have hn : 0 ≤ wn w ∧ wn w < 16 := by omega
  have hm : M 1 1 = wn w := by omega
  rw [hm] at hF
  have hh : inR (wn w) := ⟨by omega, by omega⟩
  refine vj_aload_n G (p9 := 0) d_R_enter_26 rfl rfl ?_
  refine vj_getf G lkC_1 clC_7 inC_7 (j := 1) (by decide) q_150 rfl (fvs_get flC_7_1) d_R_enter_27 ?_
  show VJ LHy w X 5 1 r M9 M [(0, .ref (wa w 1)), (1, .int (i32 (c : Int))), (2, .int (i32 x2)), (3, .ref (wa w 10))] [.int (i32 (M 1 1))] 30
  rw [hm]
  refine vj_istore G (lv2 := [(4, .int (i32 (wn w))), (0, .ref (wa w 1)), (1, .int (i32 (c : Int))), (2, .int (i32 x2)), (3, .ref (wa w 10))]) d_R_enter_30 (by decide) rfl ?_
  refine vj_aload_n G (p9 := 1) d_R_enter_32 rfl rfl ?_
  refine vj_getf G lkC_1 clC_7 inC_7 (j := 5) (by decide) q_169 rfl (fvs_get flC_7_5) d_R_enter_33 ?_
  refine vj_iload G (p9 := 0) d_R_enter_36 rfl ?_
  refine vj_iload_n G (p9 := 2) d_R_enter_38 rfl rfl ?_
  refine vj_iload G (p9 := 0) d_R_enter_39 rfl ?_
  refine vj_iload_n G (p9 := 3) d_R_enter_41 rfl rfl ?_
  refine vj_aload_n G (p9 := 4) d_R_enter_42 rfl rfl ?_
  refine vj_mr (fun hM0 => ?_)
  have h600 : ∀ j, inR (M 600 j) := fun j => hM0 600 j
  refine vj_to (L := LHy) (L' := LHy) (w' := w) (M' := mrow M 600 (fun _ => 0)) (fun H h => rp_hy6 (fun k hk => mr_ne hk) (fun j => by rw [mr_eq]; exact ir_0) h) ?_
  have hij1 : ij (LHd c 0) w := ij_hd hij
  have hA : ∀ q, Aw (LHd c 1) w q → xA X q := fun q h => by
    rw [GX.2.2.1, aw_hd0 0 0 c 1]
    exact h
  refine vj_callSn G (L2 := LHd c 1) (ct_R_made hc hij1 (fun j => by rw [mr_eq]) hh hx2 (by omega)) hA q_499 cq_R_made.1 cq_R_made.2.1 cq_R_made.2.2.1 cq_R_made.2.2.2 rfl (by decide) (by decide) (by rw [GX.2.2.2.1, GX.2.2.2.2.2.1]; exact Nat.le_refl _) (by rw [GX.2.2.2.2.1, GX.2.2.2.2.2.2.1]; exact Nat.le_refl _) (Nat.le_of_ble_eq_true rfl) d_R_enter_43 rfl (fun _ => ?_)
  show VJ (LHd c 1) w (xInc X 1 3) 5 1 r M9 (mset (mset (mrow M 600 (fun _ => 0)) 600 0 (wn w)) 600 1 x2) [(4, .int (i32 (wn w))), (0, .ref (wa w 1)), (1, .int (i32 (c : Int))), (2, .int (i32 x2)), (3, .ref (wa w 10))] [.ref (wa w 600), .int (i32 (wn w)), .ref (wa w 16)] 46
  have G2 : Gc (LHd c 1) w (xInc X 1 3) "WhoRules$Register" b_R_enter 5 5 112 := gc_hd1 (hy_gc G hij1 (fun q h => hA q h) (by rw [GX.2.2.2.1, GX.2.2.2.2.2.1]; exact Nat.le_refl _) (by rw [GX.2.2.2.2.1, GX.2.2.2.2.2.2.1]; exact Nat.le_refl _)) hij1
  refine vj_born G2 hc hn hij1 (M' := M) (h := wn w) (fam := x2) rfl (by rw [mg_j _ _ _ (by decide), mg_s]) (by rw [mg_s]) hx2 (fun k hk => by rw [mg_k _ _ _ hk, mg_k _ _ _ hk, mr_ne hk]) h600 d_R_enter_46 ?_
  have G3 : Gc LC (hW w (c : Int) x2) (xInc X 1 3) "WhoRules$Register" b_R_enter 5 5 112 := gc_born hn G2 hij1
  rw [← hW_j (w := w) (c := (c : Int)) (fam := x2) (k := 1) (by omega), ← hW_j (w := w) (c := (c : Int)) (fam := x2) (k := 10) (by omega)]
  refine we_47 G3 (fun v N lv pc hv hdg => ?_) n (c : Int) x2 (wn w) hx1 hx2 hh hF
  exact vj_hret (w := w) G3.1 G3.2.1 G3.2.2.2.2.2.2.2.1 GX.2.1 GX.2.2.1 (by show xcn X + 1 ≤ 1; rw [GX.2.2.2.1]; exact Nat.le_refl _) (by show xsn X + 3 ≤ 3; rw [GX.2.2.2.2.1]; exact Nat.le_refl _) GX.2.2.2.2.2.2.2 (fun H h => ⟨_, Or.inr ⟨c, x2, hn, rfl⟩, h⟩) hv hdg
set_option maxHeartbeats 4000000 in
set_option maxRecDepth 100000 in
theorem ct_R_enter (hij : ij (LHd 0 0) w) (n : Nat) (x1 x2 : Int) (hx1 : inR x1) (hx2 : inR x2) (hF : f_R_enter n x1 x2 M = some (r, M9)) : CtH w y_R_enter b_R_enter 5 5 112 [.ref (wa w 1), .int (i32 x1), .int (i32 x2), .ref (wa w 10)] M r M9 := by
  refine CtH.of hij (by decide +kernel) (Nat.le_of_ble_eq_true rfl) (fun X GX => ?_)
  have G := GX.1
  have GX : GH w X "WhoRules$Register" b_R_enter 5 5 112 := GX
  have hend : ∀ (M : Mm) (lv : List (Nat × Value)), VJ LHy w X 5 1 (-4) M M lv [.int (i32 (-4))] 25 := fun M lv => vj_hret (w := w) G.1 G.2.1 G.2.2.2.2.2.2.2.1 GX.2.1 GX.2.2.1 (by rw [GX.2.2.2.1]; exact Nat.zero_le _) (by rw [GX.2.2.2.2.1]; exact Nat.zero_le _) GX.2.2.2.2.2.2.2 (fun H h => ⟨w, Or.inl rfl, rp_hy_C h⟩) ic_m4 d_R_enter_25
  show VJ LHy w X 5 1 r M9 M [(0, .ref (wa w 1)), (1, .int (i32 x1)), (2, .int (i32 x2)), (3, .ref (wa w 10))] [] 0
  unfold f_R_enter at hF
  refine vj_aload_n G (p9 := 0) d_R_enter_0 rfl rfl ?_
  refine vj_getf G lkC_1 clC_7 inC_7 (j := 1) (by decide) q_150 rfl (fvs_get flC_7_1) d_R_enter_1 ?_
  refine vj_mr (fun hM1 => ?_)
  have m11 : inR (M 1 1) := mr_o (L := LHy) hM1 lkC_1 flC_7_1
  have m12 : inR (M 1 2) := mr_o (L := LHy) hM1 lkC_1 flC_7_2
  refine vj_bipush G (v := 16) d_R_enter_4 rfl ?_
  refine vj_icmp_ge G (tgt := 23) d_R_enter_6 (by decide) m11 ic_16 (fun c1 => ?_) (fun c1 => ?_)
  · rw [if_pos c1] at hF
    cases hF
    refine vj_bipush G (v := -4) d_R_enter_23 rfl ?_
    exact hend _ _
  · rw [if_neg c1] at hF
    refine vj_iload_n G (p9 := 1) d_R_enter_9 rfl rfl ?_
    refine vj_iconst G (v := 1) d_R_enter_10 rfl ?_
    refine vj_icmp_ne G (tgt := 26) d_R_enter_11 (by decide) hx1 ic_1 (fun c2 => ?_) (fun c2 => ?_)
    · rw [if_pos c2] at hF
      exact we_26 hij GX n x1 x2 hx1 hx2 hF
    · rw [if_neg c2] at hF
      refine vj_aload_n G (p9 := 0) d_R_enter_14 rfl rfl ?_
      refine vj_getf G lkC_1 clC_7 inC_7 (j := 2) (by decide) q_158 rfl (fvs_get flC_7_2) d_R_enter_15 ?_
      refine vj_bipush G (v := 7) d_R_enter_18 rfl ?_
      refine vj_icmp_lt G (tgt := 26) d_R_enter_20 (by decide) m12 ic_7 (fun c3 => ?_) (fun c3 => ?_)
      · rw [if_pos c3] at hF
        exact we_26 hij GX n x1 x2 hx1 hx2 hF
      · rw [if_neg c3] at hF
        cases hF
        refine vj_bipush G (v := -4) d_R_enter_23 rfl ?_
        exact hend _ _
set_option maxHeartbeats 4000000 in
set_option maxRecDepth 100000 in
theorem wh_42 (hij : ij (LHd 0 0) w) (GX : GH w X "WhoRules" b_W_holder 3 6 136) (n : Nat) (x1 x2 v : Int) (hx1 : inR x1) (hv : inR v) (hF : f_W_holder_47 n x1 v M = some (r, M9)) : VJ LHy w X 3 1 r M9 M [(0, .ref (wa w 0)), (1, .int (i32 x1)), (2, .int (i32 x2))] [.int (i32 v), .int (i32 x1), .ref (wa w 1)] 42 := by
  have G := GX.1
  unfold f_W_holder_47 at hF
  obtain ⟨r1, N1, e1, hF⟩ := bnd_some hF
  cases hF
  refine vj_aload_n G (p9 := 0) d_W_holder_42 rfl rfl ?_
  refine vj_getf G lkC_0 clC_6 inC_6 (j := 0) (by decide) q_450 rfl (fvs_get flC_6_0) d_W_holder_43 ?_
  refine vj_callHo GX (ct_R_enter hij n x1 v hx1 hv e1) lkC_1 clC_7 rfl q_495 cq_R_enter rfl (by decide) (by decide) (Nat.le_of_ble_eq_true rfl) d_W_holder_46 rfl (fun hr w' hw' => ?_)
  exact vj_hret (w := w) G.1 G.2.1 G.2.2.2.2.2.2.2.1 GX.2.1 GX.2.2.1 (by show xcn X + 1 ≤ 1; rw [GX.2.2.2.1]; exact Nat.le_refl _) (by show xsn X + 3 ≤ 3; rw [GX.2.2.2.2.1]; exact Nat.le_refl _) GX.2.2.2.2.2.2.2 (fun H h => ⟨w', hw', h⟩) hr d_W_holder_49
set_option maxHeartbeats 4000000 in
set_option maxRecDepth 100000 in
theorem wh_27 (hij : ij (LHd 0 0) w) (GX : GH w X "WhoRules" b_W_holder 3 6 136) (n : Nat) (x1 x2 : Int) (hx1 : inR x1) (hx2 : inR x2) (hF : f_W_holder_33 n x1 x2 M = some (r, M9)) : VJ LHy w X 3 1 r M9 M [(0, .ref (wa w 0)), (1, .int (i32 x1)), (2, .int (i32 x2))] [] 27 := by
  have G := GX.1
  unfold f_W_holder_33 at hF
  refine vj_aload_n G (p9 := 0) d_W_holder_27 rfl rfl ?_
  refine vj_getf G lkC_0 clC_6 inC_6 (j := 1) (by decide) q_451 rfl (fvs_get flC_6_1) d_W_holder_28 ?_
  refine vj_iload_n G (p9 := 1) d_W_holder_31 rfl rfl ?_
  refine vj_iload_n G (p9 := 1) d_W_holder_32 rfl rfl ?_
  refine vj_iconst G (v := 3) d_W_holder_33 rfl ?_
  refine vj_icmp_ne G (tgt := 41) d_W_holder_34 (by decide) hx1 ic_3 (fun c1 => ?_) (fun c1 => ?_)
  · rw [if_pos c1] at hF
    refine vj_iconst G (v := 0) d_W_holder_41 rfl ?_
    exact wh_42 hij GX n x1 x2 0 hx1 ir_0 hF
  · rw [if_neg c1] at hF
    refine vj_iload_n G (p9 := 2) d_W_holder_37 rfl rfl ?_
    refine vj_goto G (tgt := 42) d_W_holder_38 (by decide) ?_
    exact wh_42 hij GX n x1 x2 x2 hx1 hx2 hF
set_option maxHeartbeats 4000000 in
set_option maxRecDepth 100000 in
theorem ct_W_holder (hij : ij (LHd 0 0) w) (n : Nat) (x1 x2 : Int) (hx1 : inR x1) (hx2 : inR x2) (hF : f_W_holder n x1 x2 M = some (r, M9)) : CtH w y_W_holder b_W_holder 3 6 136 [.ref (wa w 0), .int (i32 x1), .int (i32 x2)] M r M9 := by
  refine CtH.of hij (by decide +kernel) (Nat.le_of_ble_eq_true rfl) (fun X GX => ?_)
  have G := GX.1
  have GX : GH w X "WhoRules" b_W_holder 3 6 136 := GX
  have hend : ∀ (M : Mm) (lv : List (Nat × Value)) (pc : Nat), decode b_W_holder pc = .ok (.ireturn, 1) → VJ LHy w X 3 1 (-1) M M lv [.int (i32 (-1))] pc := fun M lv pc hd => vj_hret (w := w) G.1 G.2.1 G.2.2.2.2.2.2.2.1 GX.2.1 GX.2.2.1 (by rw [GX.2.2.2.1]; exact Nat.zero_le _) (by rw [GX.2.2.2.2.1]; exact Nat.zero_le _) GX.2.2.2.2.2.2.2 (fun H h => ⟨w, Or.inl rfl, rp_hy_C h⟩) ic_m1 hd
  show VJ LHy w X 3 1 r M9 M [(0, .ref (wa w 0)), (1, .int (i32 x1)), (2, .int (i32 x2))] [] 0
  unfold f_W_holder at hF
  refine vj_iload_n G (p9 := 1) d_W_holder_0 rfl rfl ?_
  refine vj_if_lt G (tgt := 9) d_W_holder_1 (by decide) hx1 (fun c1 => ?_) (fun c1 => ?_)
  · rw [if_pos c1] at hF
    cases hF
    refine vj_iconst G (v := -1) d_W_holder_9 rfl ?_
    exact hend _ _ _ d_W_holder_10
  · rw [if_neg c1] at hF
    refine vj_iload_n G (p9 := 1) d_W_holder_4 rfl rfl ?_
    refine vj_iconst G (v := 5) d_W_holder_5 rfl ?_
    refine vj_icmp_le G (tgt := 11) d_W_holder_6 (by decide) hx1 ic_5 (fun c2 => ?_) (fun c2 => ?_)
    · rw [if_neg (by omega)] at hF
      refine vj_iload_n G (p9 := 1) d_W_holder_11 rfl rfl ?_
      refine vj_iconst G (v := 3) d_W_holder_12 rfl ?_
      refine vj_icmp_ne G (tgt := 27) d_W_holder_13 (by decide) hx1 ic_3 (fun c3 => ?_) (fun c3 => ?_)
      · rw [if_pos c3] at hF
        exact wh_27 hij GX n x1 x2 hx1 hx2 hF
      · rw [if_neg c3] at hF
        refine vj_iload_n G (p9 := 2) d_W_holder_16 rfl rfl ?_
        refine vj_if_lt G (tgt := 25) d_W_holder_17 (by decide) hx2 (fun c4 => ?_) (fun c4 => ?_)
        · rw [if_pos c4] at hF
          cases hF
          refine vj_iconst G (v := -1) d_W_holder_25 rfl ?_
          exact hend _ _ _ d_W_holder_26
        · rw [if_neg c4] at hF
          refine vj_iload_n G (p9 := 2) d_W_holder_20 rfl rfl ?_
          refine vj_iconst G (v := 4) d_W_holder_21 rfl ?_
          refine vj_icmp_lt G (tgt := 27) d_W_holder_22 (by decide) hx2 ic_4 (fun c5 => ?_) (fun c5 => ?_)
          · rw [if_pos c5] at hF
            exact wh_27 hij GX n x1 x2 hx1 hx2 hF
          · rw [if_neg c5] at hF
            cases hF
            refine vj_iconst G (v := -1) d_W_holder_25 rfl ?_
            exact hend _ _ _ d_W_holder_26
    · rw [if_pos (by omega)] at hF
      cases hF
      refine vj_iconst G (v := -1) d_W_holder_9 rfl ?_
      exact hend _ _ _ d_W_holder_10
end
