/-! Written by wip/whole/gen/inits.py. The reference's constructor. -/
set_option maxHeartbeats 8000000 in
set_option maxRecDepth 100000 in
theorem cn_m {w : Wd} (hw : WCR w) : Ctn (SgR 2) (SgR 102) w y_m_init b_m_init 1 none 1 50 4167 20 0 [.ref (wa w 0)] Z0 0 (mset (mset (mset (mset (mset (mset (mset (mset Z0 0 16 (-1)) 0 17 (-1)) 47 0 (-1)) 47 1 (-1)) 47 2 (-1)) 47 3 (-1)) 47 4 (-1)) 47 5 (-1)) := by
  refine Ctn.of (ij_st hw.1) (KstS KstLR _) (fun k h => pr_sm (by decide) h) (hnew_st hw.2.1 (by decide) (by decide +kernel)) (by decide +kernel) (Nat.le_of_ble_eq_true rfl) (fun X G9 => ?_)
  have B : GB (SLy LR evR efR cnR 0) w X "WhoRulesModel" b_m_init 1 1 20 2 102 50 4167 := gb_of hw.1 KstLR G9
  have hnm : (xM X).name = "<init>" := G9.2.2.2.2.2.2.2.2
  show VJ (SgR 2) w (xInc X 0 0) 1 0 0 (mset (mset (mset (mset (mset (mset (mset (mset Z0 0 16 (-1)) 0 17 (-1)) 47 0 (-1)) 47 1 (-1)) 47 2 (-1)) 47 3 (-1)) 47 4 (-1)) 47 5 (-1)) Z0 [(0, .ref (wa w 0))] [] 0
  refine vj_aload_n (gbx B (e := 2) (a := 0) (b := 0) (by decide)) (p9 := 0) d_m_init_0 rfl rfl ?_
  refine vj_objInit (gbx B (e := 2) (a := 0) (b := 0) (by decide)) q_1305 qo_inst qo_code (by decide) (by decide) (by decide) d_m_init_1 ?_
  refine vj_aload_n (gbx B (e := 2) (a := 0) (b := 0) (by decide)) (p9 := 0) d_m_init_4 rfl rfl ?_
  refine vj_iconst (gbx B (e := 2) (a := 0) (b := 0) (by decide)) (v := 0) d_m_init_5 rfl ?_
  refine sn_p0 B (e := 2) (a := 0) (b := 0) (k := 0) (c := 0) (j := 0) (v := 0) (by decide) flR_0_0 (by decide) lkR_0 (by decide +kernel) clR_0 inR_0 toR_0 nmR_0 rfl q_1306 rfl rfl (ty := .int) (by decide +kernel) rfl rfl rfl ir_0 rfl d_m_init_6 ?_
  refine vj_aload_n (gbx B (e := 2) (a := 0) (b := 0) (by decide)) (p9 := 0) d_m_init_9 rfl rfl ?_
  refine vj_iconst (gbx B (e := 2) (a := 0) (b := 0) (by decide)) (v := 0) d_m_init_10 rfl ?_
  refine sn_p0 B (e := 2) (a := 0) (b := 0) (k := 0) (c := 0) (j := 1) (v := 0) (by decide) flR_0_1 (by decide) lkR_0 (by decide +kernel) clR_0 inR_0 toR_0 nmR_0 rfl q_1307 rfl rfl (ty := .int) (by decide +kernel) rfl rfl rfl ir_0 rfl d_m_init_11 ?_
  refine vj_aload_n (gbx B (e := 2) (a := 0) (b := 0) (by decide)) (p9 := 0) d_m_init_14 rfl rfl ?_
  refine vj_iconst (gbx B (e := 2) (a := 0) (b := 0) (by decide)) (v := 0) d_m_init_15 rfl ?_
  refine sn_p0 B (e := 2) (a := 0) (b := 0) (k := 0) (c := 0) (j := 2) (v := 0) (by decide) flR_0_2 (by decide) lkR_0 (by decide +kernel) clR_0 inR_0 toR_0 nmR_0 rfl q_1308 rfl rfl (ty := .int) (by decide +kernel) rfl rfl rfl ir_0 rfl d_m_init_16 ?_
  refine vj_aload_n (gbx B (e := 2) (a := 0) (b := 0) (by decide)) (p9 := 0) d_m_init_19 rfl rfl ?_
  refine vj_iconst (gbx B (e := 2) (a := 0) (b := 0) (by decide)) (v := 0) d_m_init_20 rfl ?_
  refine sn_p0 B (e := 2) (a := 0) (b := 0) (k := 0) (c := 0) (j := 3) (v := 0) (by decide) flR_0_3 (by decide) lkR_0 (by decide +kernel) clR_0 inR_0 toR_0 nmR_0 rfl q_1309 rfl rfl (ty := .int) (by decide +kernel) rfl rfl rfl ir_0 rfl d_m_init_21 ?_
  refine vj_aload_n (gbx B (e := 2) (a := 0) (b := 0) (by decide)) (p9 := 0) d_m_init_24 rfl rfl ?_
  refine vj_iconst (gbx B (e := 2) (a := 0) (b := 0) (by decide)) (v := 0) d_m_init_25 rfl ?_
  refine sn_p0 B (e := 2) (a := 0) (b := 0) (k := 0) (c := 0) (j := 4) (v := 0) (by decide) flR_0_4 (by decide) lkR_0 (by decide +kernel) clR_0 inR_0 toR_0 nmR_0 rfl q_1310 rfl rfl (ty := .int) (by decide +kernel) rfl rfl rfl ir_0 rfl d_m_init_26 ?_
  refine vj_aload_n (gbx B (e := 2) (a := 0) (b := 0) (by decide)) (p9 := 0) d_m_init_29 rfl rfl ?_
  refine vj_bipush (gbx B (e := 2) (a := 0) (b := 0) (by decide)) (v := 16) d_m_init_30 rfl ?_
  refine sn_i B (e := 2) (e' := 3) (a := 0) (a' := 1) (b := 0) (b' := 16) (k := 1) (n := 16) (z := 0) (by decide) lkR_1 (by decide +kernel) (by decide +kernel) (by decide +kernel) (by decide +kernel) (wof hw.2.1 (by decide +kernel)) (fun _ => rfl) qn_250 d_m_init_32 ?_
  refine sn_f B hnm (e := 3) (e' := 4) (a := 1) (b := 16) (k := 0) (c := 0) (kk := 1) (j := 5) (by decide) flR_0_5 (by decide +kernel) (by decide +kernel) (by decide +kernel) (by decide +kernel) lkR_0 (by decide +kernel) obR_0 hw.1 clR_0 inR_0 toR_0 nmR_0 rfl q_1311 rfl rfl (ty := (.array .int)) (by decide +kernel) rfl rfl d_m_init_34 ?_
  refine vj_aload_n (gbx B (e := 4) (a := 1) (b := 16) (by decide)) (p9 := 0) d_m_init_37 rfl rfl ?_
  refine vj_bipush (gbx B (e := 4) (a := 1) (b := 16) (by decide)) (v := 16) d_m_init_38 rfl ?_
  refine sn_i B (e := 4) (e' := 5) (a := 1) (a' := 2) (b := 16) (b' := 32) (k := 2) (n := 16) (z := 0) (by decide) lkR_2 (by decide +kernel) (by decide +kernel) (by decide +kernel) (by decide +kernel) (wof hw.2.1 (by decide +kernel)) (fun _ => rfl) qn_250 d_m_init_40 ?_
  refine sn_f B hnm (e := 5) (e' := 6) (a := 2) (b := 32) (k := 0) (c := 0) (kk := 2) (j := 6) (by decide) flR_0_6 (by decide +kernel) (by decide +kernel) (by decide +kernel) (by decide +kernel) lkR_0 (by decide +kernel) obR_0 hw.1 clR_0 inR_0 toR_0 nmR_0 rfl q_1312 rfl rfl (ty := (.array .int)) (by decide +kernel) rfl rfl d_m_init_42 ?_
  refine vj_aload_n (gbx B (e := 6) (a := 2) (b := 32) (by decide)) (p9 := 0) d_m_init_45 rfl rfl ?_
  refine vj_bipush (gbx B (e := 6) (a := 2) (b := 32) (by decide)) (v := 40) d_m_init_46 rfl ?_
  refine sn_i B (e := 6) (e' := 7) (a := 2) (a' := 3) (b := 32) (b' := 72) (k := 3) (n := 40) (z := 0) (by decide) lkR_3 (by decide +kernel) (by decide +kernel) (by decide +kernel) (by decide +kernel) (wof hw.2.1 (by decide +kernel)) (fun _ => rfl) qn_250 d_m_init_48 ?_
  refine sn_f B hnm (e := 7) (e' := 8) (a := 3) (b := 72) (k := 0) (c := 0) (kk := 3) (j := 7) (by decide) flR_0_7 (by decide +kernel) (by decide +kernel) (by decide +kernel) (by decide +kernel) lkR_0 (by decide +kernel) obR_0 hw.1 clR_0 inR_0 toR_0 nmR_0 rfl q_1313 rfl rfl (ty := (.array .int)) (by decide +kernel) rfl rfl d_m_init_50 ?_
  refine vj_aload_n (gbx B (e := 8) (a := 3) (b := 72) (by decide)) (p9 := 0) d_m_init_53 rfl rfl ?_
  refine vj_bipush (gbx B (e := 8) (a := 3) (b := 72) (by decide)) (v := 40) d_m_init_54 rfl ?_
  refine sn_i B (e := 8) (e' := 9) (a := 3) (a' := 4) (b := 72) (b' := 112) (k := 4) (n := 40) (z := 0) (by decide) lkR_4 (by decide +kernel) (by decide +kernel) (by decide +kernel) (by decide +kernel) (wof hw.2.1 (by decide +kernel)) (fun _ => rfl) qn_250 d_m_init_56 ?_
  refine sn_f B hnm (e := 9) (e' := 10) (a := 4) (b := 112) (k := 0) (c := 0) (kk := 4) (j := 8) (by decide) flR_0_8 (by decide +kernel) (by decide +kernel) (by decide +kernel) (by decide +kernel) lkR_0 (by decide +kernel) obR_0 hw.1 clR_0 inR_0 toR_0 nmR_0 rfl q_1314 rfl rfl (ty := (.array .int)) (by decide +kernel) rfl rfl d_m_init_58 ?_
  refine vj_aload_n (gbx B (e := 10) (a := 4) (b := 112) (by decide)) (p9 := 0) d_m_init_61 rfl rfl ?_
  refine vj_bipush (gbx B (e := 10) (a := 4) (b := 112) (by decide)) (v := 40) d_m_init_62 rfl ?_
  refine sn_i B (e := 10) (e' := 11) (a := 4) (a' := 5) (b := 112) (b' := 152) (k := 5) (n := 40) (z := 0) (by decide) lkR_5 (by decide +kernel) (by decide +kernel) (by decide +kernel) (by decide +kernel) (wof hw.2.1 (by decide +kernel)) (fun _ => rfl) qn_250 d_m_init_64 ?_
  refine sn_f B hnm (e := 11) (e' := 12) (a := 5) (b := 152) (k := 0) (c := 0) (kk := 5) (j := 9) (by decide) flR_0_9 (by decide +kernel) (by decide +kernel) (by decide +kernel) (by decide +kernel) lkR_0 (by decide +kernel) obR_0 hw.1 clR_0 inR_0 toR_0 nmR_0 rfl q_1315 rfl rfl (ty := (.array .int)) (by decide +kernel) rfl rfl d_m_init_66 ?_
  refine vj_aload_n (gbx B (e := 12) (a := 5) (b := 152) (by decide)) (p9 := 0) d_m_init_69 rfl rfl ?_
  refine vj_bipush (gbx B (e := 12) (a := 5) (b := 152) (by decide)) (v := 40) d_m_init_70 rfl ?_
  refine sn_i B (e := 12) (e' := 13) (a := 5) (a' := 6) (b := 152) (b' := 192) (k := 6) (n := 40) (z := 0) (by decide) lkR_6 (by decide +kernel) (by decide +kernel) (by decide +kernel) (by decide +kernel) (wof hw.2.1 (by decide +kernel)) (fun _ => rfl) qn_250 d_m_init_72 ?_
  refine sn_f B hnm (e := 13) (e' := 14) (a := 6) (b := 192) (k := 0) (c := 0) (kk := 6) (j := 10) (by decide) flR_0_10 (by decide +kernel) (by decide +kernel) (by decide +kernel) (by decide +kernel) lkR_0 (by decide +kernel) obR_0 hw.1 clR_0 inR_0 toR_0 nmR_0 rfl q_1316 rfl rfl (ty := (.array .int)) (by decide +kernel) rfl rfl d_m_init_74 ?_
  refine vj_aload_n (gbx B (e := 14) (a := 6) (b := 192) (by decide)) (p9 := 0) d_m_init_77 rfl rfl ?_
  refine vj_bipush (gbx B (e := 14) (a := 6) (b := 192) (by decide)) (v := 40) d_m_init_78 rfl ?_
  refine sn_i B (e := 14) (e' := 15) (a := 6) (a' := 7) (b := 192) (b' := 232) (k := 7) (n := 40) (z := 0) (by decide) lkR_7 (by decide +kernel) (by decide +kernel) (by decide +kernel) (by decide +kernel) (wof hw.2.1 (by decide +kernel)) (fun _ => rfl) qn_250 d_m_init_80 ?_
  refine sn_f B hnm (e := 15) (e' := 16) (a := 7) (b := 232) (k := 0) (c := 0) (kk := 7) (j := 11) (by decide) flR_0_11 (by decide +kernel) (by decide +kernel) (by decide +kernel) (by decide +kernel) lkR_0 (by decide +kernel) obR_0 hw.1 clR_0 inR_0 toR_0 nmR_0 rfl q_1317 rfl rfl (ty := (.array .int)) (by decide +kernel) rfl rfl d_m_init_82 ?_
  refine vj_aload_n (gbx B (e := 16) (a := 7) (b := 232) (by decide)) (p9 := 0) d_m_init_85 rfl rfl ?_
  refine vj_bipush (gbx B (e := 16) (a := 7) (b := 232) (by decide)) (v := 40) d_m_init_86 rfl ?_
  refine sn_i B (e := 16) (e' := 17) (a := 7) (a' := 8) (b := 232) (b' := 272) (k := 8) (n := 40) (z := 0) (by decide) lkR_8 (by decide +kernel) (by decide +kernel) (by decide +kernel) (by decide +kernel) (wof hw.2.1 (by decide +kernel)) (fun _ => rfl) qn_250 d_m_init_88 ?_
  refine sn_f B hnm (e := 17) (e' := 18) (a := 8) (b := 272) (k := 0) (c := 0) (kk := 8) (j := 12) (by decide) flR_0_12 (by decide +kernel) (by decide +kernel) (by decide +kernel) (by decide +kernel) lkR_0 (by decide +kernel) obR_0 hw.1 clR_0 inR_0 toR_0 nmR_0 rfl q_1318 rfl rfl (ty := (.array .int)) (by decide +kernel) rfl rfl d_m_init_90 ?_
  refine vj_aload_n (gbx B (e := 18) (a := 8) (b := 272) (by decide)) (p9 := 0) d_m_init_93 rfl rfl ?_
  refine vj_bipush (gbx B (e := 18) (a := 8) (b := 272) (by decide)) (v := 120) d_m_init_94 rfl ?_
  refine sn_i B (e := 18) (e' := 19) (a := 8) (a' := 9) (b := 272) (b' := 392) (k := 9) (n := 120) (z := 0) (by decide) lkR_9 (by decide +kernel) (by decide +kernel) (by decide +kernel) (by decide +kernel) (wof hw.2.1 (by decide +kernel)) (fun _ => rfl) qn_250 d_m_init_96 ?_
  refine sn_f B hnm (e := 19) (e' := 20) (a := 9) (b := 392) (k := 0) (c := 0) (kk := 9) (j := 13) (by decide) flR_0_13 (by decide +kernel) (by decide +kernel) (by decide +kernel) (by decide +kernel) lkR_0 (by decide +kernel) obR_0 hw.1 clR_0 inR_0 toR_0 nmR_0 rfl q_1319 rfl rfl (ty := (.array .int)) (by decide +kernel) rfl rfl d_m_init_98 ?_
  refine vj_aload_n (gbx B (e := 20) (a := 9) (b := 392) (by decide)) (p9 := 0) d_m_init_101 rfl rfl ?_
  refine vj_bipush (gbx B (e := 20) (a := 9) (b := 392) (by decide)) (v := 120) d_m_init_102 rfl ?_
  refine sn_i B (e := 20) (e' := 21) (a := 9) (a' := 10) (b := 392) (b' := 512) (k := 10) (n := 120) (z := 0) (by decide) lkR_10 (by decide +kernel) (by decide +kernel) (by decide +kernel) (by decide +kernel) (wof hw.2.1 (by decide +kernel)) (fun _ => rfl) qn_250 d_m_init_104 ?_
  refine sn_f B hnm (e := 21) (e' := 22) (a := 10) (b := 512) (k := 0) (c := 0) (kk := 10) (j := 14) (by decide) flR_0_14 (by decide +kernel) (by decide +kernel) (by decide +kernel) (by decide +kernel) lkR_0 (by decide +kernel) obR_0 hw.1 clR_0 inR_0 toR_0 nmR_0 rfl q_1320 rfl rfl (ty := (.array .int)) (by decide +kernel) rfl rfl d_m_init_106 ?_
  refine vj_aload_n (gbx B (e := 22) (a := 10) (b := 512) (by decide)) (p9 := 0) d_m_init_109 rfl rfl ?_
  refine vj_bipush (gbx B (e := 22) (a := 10) (b := 512) (by decide)) (v := 120) d_m_init_110 rfl ?_
  refine sn_i B (e := 22) (e' := 23) (a := 10) (a' := 11) (b := 512) (b' := 632) (k := 11) (n := 120) (z := 0) (by decide) lkR_11 (by decide +kernel) (by decide +kernel) (by decide +kernel) (by decide +kernel) (wof hw.2.1 (by decide +kernel)) (fun _ => rfl) qn_250 d_m_init_112 ?_
  refine sn_f B hnm (e := 23) (e' := 24) (a := 11) (b := 632) (k := 0) (c := 0) (kk := 11) (j := 15) (by decide) flR_0_15 (by decide +kernel) (by decide +kernel) (by decide +kernel) (by decide +kernel) lkR_0 (by decide +kernel) obR_0 hw.1 clR_0 inR_0 toR_0 nmR_0 rfl q_1321 rfl rfl (ty := (.array .int)) (by decide +kernel) rfl rfl d_m_init_114 ?_
  refine vj_aload_n (gbx B (e := 24) (a := 11) (b := 632) (by decide)) (p9 := 0) d_m_init_117 rfl rfl ?_
  refine vj_iconst (gbx B (e := 24) (a := 11) (b := 632) (by decide)) (v := -1) d_m_init_118 rfl ?_
  refine sn_p B (e := 24) (a := 11) (b := 632) (k := 0) (c := 0) (j := 16) (v := -1) (by decide) flR_0_16 (by decide) lkR_0 (by decide +kernel) clR_0 inR_0 toR_0 nmR_0 rfl q_1322 rfl rfl (ty := .int) (by decide +kernel) rfl rfl rfl ic_m1 d_m_init_119 ?_
  refine vj_aload_n (gbx B (e := 24) (a := 11) (b := 632) (by decide)) (p9 := 0) d_m_init_122 rfl rfl ?_
  refine vj_iconst (gbx B (e := 24) (a := 11) (b := 632) (by decide)) (v := -1) d_m_init_123 rfl ?_
  refine sn_p B (e := 24) (a := 11) (b := 632) (k := 0) (c := 0) (j := 17) (v := -1) (by decide) flR_0_17 (by decide) lkR_0 (by decide +kernel) clR_0 inR_0 toR_0 nmR_0 rfl q_1323 rfl rfl (ty := .int) (by decide +kernel) rfl rfl rfl ic_m1 d_m_init_124 ?_
  refine vj_aload_n (gbx B (e := 24) (a := 11) (b := 632) (by decide)) (p9 := 0) d_m_init_127 rfl rfl ?_
  refine vj_iconst (gbx B (e := 24) (a := 11) (b := 632) (by decide)) (v := 0) d_m_init_128 rfl ?_
  refine sn_p0 B (e := 24) (a := 11) (b := 632) (k := 0) (c := 0) (j := 18) (v := 0) (by decide) flR_0_18 (by decide) lkR_0 (by decide +kernel) clR_0 inR_0 toR_0 nmR_0 rfl q_1324 rfl rfl (ty := .int) (by decide +kernel) rfl rfl rfl ir_0 rfl d_m_init_129 ?_
  refine vj_aload_n (gbx B (e := 24) (a := 11) (b := 632) (by decide)) (p9 := 0) d_m_init_132 rfl rfl ?_
  refine vj_iconst (gbx B (e := 24) (a := 11) (b := 632) (by decide)) (v := 0) d_m_init_133 rfl ?_
  refine sn_p0 B (e := 24) (a := 11) (b := 632) (k := 0) (c := 0) (j := 19) (v := 0) (by decide) flR_0_19 (by decide) lkR_0 (by decide +kernel) clR_0 inR_0 toR_0 nmR_0 rfl q_1325 rfl rfl (ty := .int) (by decide +kernel) rfl rfl rfl ir_0 rfl d_m_init_134 ?_
  refine vj_aload_n (gbx B (e := 24) (a := 11) (b := 632) (by decide)) (p9 := 0) d_m_init_137 rfl rfl ?_
  refine vj_bipush (gbx B (e := 24) (a := 11) (b := 632) (by decide)) (v := 20) d_m_init_138 rfl ?_
  refine sn_i B (e := 24) (e' := 25) (a := 11) (a' := 12) (b := 632) (b' := 652) (k := 12) (n := 20) (z := 0) (by decide) lkR_12 (by decide +kernel) (by decide +kernel) (by decide +kernel) (by decide +kernel) (wof hw.2.1 (by decide +kernel)) (fun _ => rfl) qn_250 d_m_init_140 ?_
  refine sn_f B hnm (e := 25) (e' := 26) (a := 12) (b := 652) (k := 0) (c := 0) (kk := 12) (j := 20) (by decide) flR_0_20 (by decide +kernel) (by decide +kernel) (by decide +kernel) (by decide +kernel) lkR_0 (by decide +kernel) obR_0 hw.1 clR_0 inR_0 toR_0 nmR_0 rfl q_1326 rfl rfl (ty := (.array .int)) (by decide +kernel) rfl rfl d_m_init_142 ?_
  refine vj_aload_n (gbx B (e := 26) (a := 12) (b := 652) (by decide)) (p9 := 0) d_m_init_145 rfl rfl ?_
  refine vj_bipush (gbx B (e := 26) (a := 12) (b := 652) (by decide)) (v := 20) d_m_init_146 rfl ?_
  refine sn_i B (e := 26) (e' := 27) (a := 12) (a' := 13) (b := 652) (b' := 672) (k := 13) (n := 20) (z := 0) (by decide) lkR_13 (by decide +kernel) (by decide +kernel) (by decide +kernel) (by decide +kernel) (wof hw.2.1 (by decide +kernel)) (fun _ => rfl) qn_250 d_m_init_148 ?_
  refine sn_f B hnm (e := 27) (e' := 28) (a := 13) (b := 672) (k := 0) (c := 0) (kk := 13) (j := 21) (by decide) flR_0_21 (by decide +kernel) (by decide +kernel) (by decide +kernel) (by decide +kernel) lkR_0 (by decide +kernel) obR_0 hw.1 clR_0 inR_0 toR_0 nmR_0 rfl q_1327 rfl rfl (ty := (.array .int)) (by decide +kernel) rfl rfl d_m_init_150 ?_
  refine vj_aload_n (gbx B (e := 28) (a := 13) (b := 672) (by decide)) (p9 := 0) d_m_init_153 rfl rfl ?_
  refine vj_sipush (gbx B (e := 28) (a := 13) (b := 672) (by decide)) (v := 2100) d_m_init_154 rfl ?_
  refine sn_i B (e := 28) (e' := 29) (a := 13) (a' := 14) (b := 672) (b' := 2772) (k := 14) (n := 2100) (z := 0) (by decide) lkR_14 (by decide +kernel) (by decide +kernel) (by decide +kernel) (by decide +kernel) (wof hw.2.1 (by decide +kernel)) (fun _ => rfl) qn_250 d_m_init_157 ?_
  refine sn_f B hnm (e := 29) (e' := 30) (a := 14) (b := 2772) (k := 0) (c := 0) (kk := 14) (j := 22) (by decide) flR_0_22 (by decide +kernel) (by decide +kernel) (by decide +kernel) (by decide +kernel) lkR_0 (by decide +kernel) obR_0 hw.1 clR_0 inR_0 toR_0 nmR_0 rfl q_1328 rfl rfl (ty := (.array .int)) (by decide +kernel) rfl rfl d_m_init_159 ?_
  refine vj_aload_n (gbx B (e := 30) (a := 14) (b := 2772) (by decide)) (p9 := 0) d_m_init_162 rfl rfl ?_
  refine vj_bipush (gbx B (e := 30) (a := 14) (b := 2772) (by decide)) (v := 21) d_m_init_163 rfl ?_
  refine sn_i B (e := 30) (e' := 31) (a := 14) (a' := 15) (b := 2772) (b' := 2793) (k := 15) (n := 21) (z := 0) (by decide) lkR_15 (by decide +kernel) (by decide +kernel) (by decide +kernel) (by decide +kernel) (wof hw.2.1 (by decide +kernel)) (fun _ => rfl) qn_250 d_m_init_165 ?_
  refine sn_f B hnm (e := 31) (e' := 32) (a := 15) (b := 2793) (k := 0) (c := 0) (kk := 15) (j := 23) (by decide) flR_0_23 (by decide +kernel) (by decide +kernel) (by decide +kernel) (by decide +kernel) lkR_0 (by decide +kernel) obR_0 hw.1 clR_0 inR_0 toR_0 nmR_0 rfl q_1329 rfl rfl (ty := (.array .int)) (by decide +kernel) rfl rfl d_m_init_167 ?_
  refine vj_aload_n (gbx B (e := 32) (a := 15) (b := 2793) (by decide)) (p9 := 0) d_m_init_170 rfl rfl ?_
  refine vj_iconst (gbx B (e := 32) (a := 15) (b := 2793) (by decide)) (v := 5) d_m_init_171 rfl ?_
  refine sn_i B (e := 32) (e' := 33) (a := 15) (a' := 16) (b := 2793) (b' := 2798) (k := 16) (n := 5) (z := 0) (by decide) lkR_16 (by decide +kernel) (by decide +kernel) (by decide +kernel) (by decide +kernel) (wof hw.2.1 (by decide +kernel)) (fun _ => rfl) qn_250 d_m_init_172 ?_
  refine sn_f B hnm (e := 33) (e' := 34) (a := 16) (b := 2798) (k := 0) (c := 0) (kk := 16) (j := 24) (by decide) flR_0_24 (by decide +kernel) (by decide +kernel) (by decide +kernel) (by decide +kernel) lkR_0 (by decide +kernel) obR_0 hw.1 clR_0 inR_0 toR_0 nmR_0 rfl q_1330 rfl rfl (ty := (.array .int)) (by decide +kernel) rfl rfl d_m_init_174 ?_
  refine vj_aload_n (gbx B (e := 34) (a := 16) (b := 2798) (by decide)) (p9 := 0) d_m_init_177 rfl rfl ?_
  refine vj_iconst (gbx B (e := 34) (a := 16) (b := 2798) (by decide)) (v := 5) d_m_init_178 rfl ?_
  refine sn_i B (e := 34) (e' := 35) (a := 16) (a' := 17) (b := 2798) (b' := 2803) (k := 17) (n := 5) (z := 0) (by decide) lkR_17 (by decide +kernel) (by decide +kernel) (by decide +kernel) (by decide +kernel) (wof hw.2.1 (by decide +kernel)) (fun _ => rfl) qn_250 d_m_init_179 ?_
  refine sn_f B hnm (e := 35) (e' := 36) (a := 17) (b := 2803) (k := 0) (c := 0) (kk := 17) (j := 25) (by decide) flR_0_25 (by decide +kernel) (by decide +kernel) (by decide +kernel) (by decide +kernel) lkR_0 (by decide +kernel) obR_0 hw.1 clR_0 inR_0 toR_0 nmR_0 rfl q_1331 rfl rfl (ty := (.array .int)) (by decide +kernel) rfl rfl d_m_init_181 ?_
  refine vj_aload_n (gbx B (e := 36) (a := 17) (b := 2803) (by decide)) (p9 := 0) d_m_init_184 rfl rfl ?_
  refine vj_iconst (gbx B (e := 36) (a := 17) (b := 2803) (by decide)) (v := 5) d_m_init_185 rfl ?_
  refine sn_i B (e := 36) (e' := 37) (a := 17) (a' := 18) (b := 2803) (b' := 2808) (k := 18) (n := 5) (z := 0) (by decide) lkR_18 (by decide +kernel) (by decide +kernel) (by decide +kernel) (by decide +kernel) (wof hw.2.1 (by decide +kernel)) (fun _ => rfl) qn_250 d_m_init_186 ?_
  refine sn_f B hnm (e := 37) (e' := 38) (a := 18) (b := 2808) (k := 0) (c := 0) (kk := 18) (j := 26) (by decide) flR_0_26 (by decide +kernel) (by decide +kernel) (by decide +kernel) (by decide +kernel) lkR_0 (by decide +kernel) obR_0 hw.1 clR_0 inR_0 toR_0 nmR_0 rfl q_1332 rfl rfl (ty := (.array .int)) (by decide +kernel) rfl rfl d_m_init_188 ?_
  refine vj_aload_n (gbx B (e := 38) (a := 18) (b := 2808) (by decide)) (p9 := 0) d_m_init_191 rfl rfl ?_
  refine vj_iconst (gbx B (e := 38) (a := 18) (b := 2808) (by decide)) (v := 5) d_m_init_192 rfl ?_
  refine sn_i B (e := 38) (e' := 39) (a := 18) (a' := 19) (b := 2808) (b' := 2813) (k := 19) (n := 5) (z := 0) (by decide) lkR_19 (by decide +kernel) (by decide +kernel) (by decide +kernel) (by decide +kernel) (wof hw.2.1 (by decide +kernel)) (fun _ => rfl) qn_250 d_m_init_193 ?_
  refine sn_f B hnm (e := 39) (e' := 40) (a := 19) (b := 2813) (k := 0) (c := 0) (kk := 19) (j := 27) (by decide) flR_0_27 (by decide +kernel) (by decide +kernel) (by decide +kernel) (by decide +kernel) lkR_0 (by decide +kernel) obR_0 hw.1 clR_0 inR_0 toR_0 nmR_0 rfl q_1333 rfl rfl (ty := (.array .int)) (by decide +kernel) rfl rfl d_m_init_195 ?_
  refine vj_aload_n (gbx B (e := 40) (a := 19) (b := 2813) (by decide)) (p9 := 0) d_m_init_198 rfl rfl ?_
  refine vj_iconst (gbx B (e := 40) (a := 19) (b := 2813) (by decide)) (v := 0) d_m_init_199 rfl ?_
  refine sn_p0 B (e := 40) (a := 19) (b := 2813) (k := 0) (c := 0) (j := 28) (v := 0) (by decide) flR_0_28 (by decide) lkR_0 (by decide +kernel) clR_0 inR_0 toR_0 nmR_0 rfl q_1334 rfl rfl (ty := .boolean) (by decide +kernel) rfl rfl rfl (Or.inl rfl) rfl d_m_init_200 ?_
  refine vj_aload_n (gbx B (e := 40) (a := 19) (b := 2813) (by decide)) (p9 := 0) d_m_init_203 rfl rfl ?_
  refine vj_iconst (gbx B (e := 40) (a := 19) (b := 2813) (by decide)) (v := 0) d_m_init_204 rfl ?_
  refine sn_p0 B (e := 40) (a := 19) (b := 2813) (k := 0) (c := 0) (j := 29) (v := 0) (by decide) flR_0_29 (by decide) lkR_0 (by decide +kernel) clR_0 inR_0 toR_0 nmR_0 rfl q_1335 rfl rfl (ty := .int) (by decide +kernel) rfl rfl rfl ir_0 rfl d_m_init_205 ?_
  refine vj_aload_n (gbx B (e := 40) (a := 19) (b := 2813) (by decide)) (p9 := 0) d_m_init_208 rfl rfl ?_
  refine vj_iconst (gbx B (e := 40) (a := 19) (b := 2813) (by decide)) (v := 0) d_m_init_209 rfl ?_
  refine sn_p0 B (e := 40) (a := 19) (b := 2813) (k := 0) (c := 0) (j := 30) (v := 0) (by decide) flR_0_30 (by decide) lkR_0 (by decide +kernel) clR_0 inR_0 toR_0 nmR_0 rfl q_1336 rfl rfl (ty := .int) (by decide +kernel) rfl rfl rfl ir_0 rfl d_m_init_210 ?_
  refine vj_aload_n (gbx B (e := 40) (a := 19) (b := 2813) (by decide)) (p9 := 0) d_m_init_213 rfl rfl ?_
  refine vj_iconst (gbx B (e := 40) (a := 19) (b := 2813) (by decide)) (v := 0) d_m_init_214 rfl ?_
  refine sn_p0 B (e := 40) (a := 19) (b := 2813) (k := 0) (c := 0) (j := 31) (v := 0) (by decide) flR_0_31 (by decide) lkR_0 (by decide +kernel) clR_0 inR_0 toR_0 nmR_0 rfl q_1337 rfl rfl (ty := .int) (by decide +kernel) rfl rfl rfl ir_0 rfl d_m_init_215 ?_
  refine vj_aload_n (gbx B (e := 40) (a := 19) (b := 2813) (by decide)) (p9 := 0) d_m_init_218 rfl rfl ?_
  refine vj_iconst (gbx B (e := 40) (a := 19) (b := 2813) (by decide)) (v := 0) d_m_init_219 rfl ?_
  refine sn_p0 B (e := 40) (a := 19) (b := 2813) (k := 0) (c := 0) (j := 32) (v := 0) (by decide) flR_0_32 (by decide) lkR_0 (by decide +kernel) clR_0 inR_0 toR_0 nmR_0 rfl q_1338 rfl rfl (ty := .int) (by decide +kernel) rfl rfl rfl ir_0 rfl d_m_init_220 ?_
  refine vj_aload_n (gbx B (e := 40) (a := 19) (b := 2813) (by decide)) (p9 := 0) d_m_init_223 rfl rfl ?_
  refine vj_iconst (gbx B (e := 40) (a := 19) (b := 2813) (by decide)) (v := 0) d_m_init_224 rfl ?_
  refine sn_p0 B (e := 40) (a := 19) (b := 2813) (k := 0) (c := 0) (j := 33) (v := 0) (by decide) flR_0_33 (by decide) lkR_0 (by decide +kernel) clR_0 inR_0 toR_0 nmR_0 rfl q_1339 rfl rfl (ty := .int) (by decide +kernel) rfl rfl rfl ir_0 rfl d_m_init_225 ?_
  refine vj_aload_n (gbx B (e := 40) (a := 19) (b := 2813) (by decide)) (p9 := 0) d_m_init_228 rfl rfl ?_
  refine vj_bipush (gbx B (e := 40) (a := 19) (b := 2813) (by decide)) (v := 101) d_m_init_229 rfl ?_
  refine sn_i B (e := 40) (e' := 41) (a := 19) (a' := 20) (b := 2813) (b' := 2914) (k := 20) (n := 101) (z := 0) (by decide) lkR_20 (by decide +kernel) (by decide +kernel) (by decide +kernel) (by decide +kernel) (wof hw.2.1 (by decide +kernel)) (fun _ => rfl) qn_250 d_m_init_231 ?_
  refine sn_f B hnm (e := 41) (e' := 42) (a := 20) (b := 2914) (k := 0) (c := 0) (kk := 20) (j := 34) (by decide) flR_0_34 (by decide +kernel) (by decide +kernel) (by decide +kernel) (by decide +kernel) lkR_0 (by decide +kernel) obR_0 hw.1 clR_0 inR_0 toR_0 nmR_0 rfl q_1340 rfl rfl (ty := (.array .int)) (by decide +kernel) rfl rfl d_m_init_233 ?_
  refine vj_aload_n (gbx B (e := 42) (a := 20) (b := 2914) (by decide)) (p9 := 0) d_m_init_236 rfl rfl ?_
  refine vj_bipush (gbx B (e := 42) (a := 20) (b := 2914) (by decide)) (v := 101) d_m_init_237 rfl ?_
  refine sn_z B (e := 42) (e' := 43) (a := 20) (a' := 21) (b := 2914) (b' := 3015) (k := 21) (n := 101) (z := 0) (by decide) lkR_21 (by decide +kernel) (by decide +kernel) (by decide +kernel) (by decide +kernel) (wof hw.2.1 (by decide +kernel)) (fun _ => rfl) qn_1538 d_m_init_239 ?_
  refine sn_f B hnm (e := 43) (e' := 44) (a := 21) (b := 3015) (k := 0) (c := 0) (kk := 21) (j := 35) (by decide) flR_0_35 (by decide +kernel) (by decide +kernel) (by decide +kernel) (by decide +kernel) lkR_0 (by decide +kernel) obR_0 hw.1 clR_0 inR_0 toR_0 nmR_0 rfl q_1341 rfl rfl (ty := (.array .boolean)) (by decide +kernel) rfl rfl d_m_init_241 ?_
  refine vj_aload_n (gbx B (e := 44) (a := 21) (b := 3015) (by decide)) (p9 := 0) d_m_init_244 rfl rfl ?_
  refine vj_iconst (gbx B (e := 44) (a := 21) (b := 3015) (by decide)) (v := 0) d_m_init_245 rfl ?_
  refine sn_p0 B (e := 44) (a := 21) (b := 3015) (k := 0) (c := 0) (j := 36) (v := 0) (by decide) flR_0_36 (by decide) lkR_0 (by decide +kernel) clR_0 inR_0 toR_0 nmR_0 rfl q_1342 rfl rfl (ty := .int) (by decide +kernel) rfl rfl rfl ir_0 rfl d_m_init_246 ?_
  refine vj_aload_n (gbx B (e := 44) (a := 21) (b := 3015) (by decide)) (p9 := 0) d_m_init_249 rfl rfl ?_
  refine vj_iconst (gbx B (e := 44) (a := 21) (b := 3015) (by decide)) (v := 0) d_m_init_250 rfl ?_
  refine sn_p0 B (e := 44) (a := 21) (b := 3015) (k := 0) (c := 0) (j := 37) (v := 0) (by decide) flR_0_37 (by decide) lkR_0 (by decide +kernel) clR_0 inR_0 toR_0 nmR_0 rfl q_1343 rfl rfl (ty := .int) (by decide +kernel) rfl rfl rfl ir_0 rfl d_m_init_251 ?_
  refine vj_aload_n (gbx B (e := 44) (a := 21) (b := 3015) (by decide)) (p9 := 0) d_m_init_254 rfl rfl ?_
  refine vj_iconst (gbx B (e := 44) (a := 21) (b := 3015) (by decide)) (v := 0) d_m_init_255 rfl ?_
  refine sn_p0 B (e := 44) (a := 21) (b := 3015) (k := 0) (c := 0) (j := 38) (v := 0) (by decide) flR_0_38 (by decide) lkR_0 (by decide +kernel) clR_0 inR_0 toR_0 nmR_0 rfl q_1344 rfl rfl (ty := .int) (by decide +kernel) rfl rfl rfl ir_0 rfl d_m_init_256 ?_
  refine vj_aload_n (gbx B (e := 44) (a := 21) (b := 3015) (by decide)) (p9 := 0) d_m_init_259 rfl rfl ?_
  refine vj_bipush (gbx B (e := 44) (a := 21) (b := 3015) (by decide)) (v := 40) d_m_init_260 rfl ?_
  refine sn_i B (e := 44) (e' := 45) (a := 21) (a' := 22) (b := 3015) (b' := 3055) (k := 22) (n := 40) (z := 0) (by decide) lkR_22 (by decide +kernel) (by decide +kernel) (by decide +kernel) (by decide +kernel) (wof hw.2.1 (by decide +kernel)) (fun _ => rfl) qn_250 d_m_init_262 ?_
  refine sn_f B hnm (e := 45) (e' := 46) (a := 22) (b := 3055) (k := 0) (c := 0) (kk := 22) (j := 39) (by decide) flR_0_39 (by decide +kernel) (by decide +kernel) (by decide +kernel) (by decide +kernel) lkR_0 (by decide +kernel) obR_0 hw.1 clR_0 inR_0 toR_0 nmR_0 rfl q_1345 rfl rfl (ty := (.array .int)) (by decide +kernel) rfl rfl d_m_init_264 ?_
  refine vj_aload_n (gbx B (e := 46) (a := 22) (b := 3055) (by decide)) (p9 := 0) d_m_init_267 rfl rfl ?_
  refine vj_bipush (gbx B (e := 46) (a := 22) (b := 3055) (by decide)) (v := 40) d_m_init_268 rfl ?_
  refine sn_i B (e := 46) (e' := 47) (a := 22) (a' := 23) (b := 3055) (b' := 3095) (k := 23) (n := 40) (z := 0) (by decide) lkR_23 (by decide +kernel) (by decide +kernel) (by decide +kernel) (by decide +kernel) (wof hw.2.1 (by decide +kernel)) (fun _ => rfl) qn_250 d_m_init_270 ?_
  refine sn_f B hnm (e := 47) (e' := 48) (a := 23) (b := 3095) (k := 0) (c := 0) (kk := 23) (j := 40) (by decide) flR_0_40 (by decide +kernel) (by decide +kernel) (by decide +kernel) (by decide +kernel) lkR_0 (by decide +kernel) obR_0 hw.1 clR_0 inR_0 toR_0 nmR_0 rfl q_1346 rfl rfl (ty := (.array .int)) (by decide +kernel) rfl rfl d_m_init_272 ?_
  refine vj_aload_n (gbx B (e := 48) (a := 23) (b := 3095) (by decide)) (p9 := 0) d_m_init_275 rfl rfl ?_
  refine vj_sipush (gbx B (e := 48) (a := 23) (b := 3095) (by decide)) (v := 256) d_m_init_276 rfl ?_
  refine sn_i B (e := 48) (e' := 49) (a := 23) (a' := 24) (b := 3095) (b' := 3351) (k := 24) (n := 256) (z := 0) (by decide) lkR_24 (by decide +kernel) (by decide +kernel) (by decide +kernel) (by decide +kernel) (wof hw.2.1 (by decide +kernel)) (fun _ => rfl) qn_250 d_m_init_279 ?_
  refine sn_f B hnm (e := 49) (e' := 50) (a := 24) (b := 3351) (k := 0) (c := 0) (kk := 24) (j := 41) (by decide) flR_0_41 (by decide +kernel) (by decide +kernel) (by decide +kernel) (by decide +kernel) lkR_0 (by decide +kernel) obR_0 hw.1 clR_0 inR_0 toR_0 nmR_0 rfl q_1347 rfl rfl (ty := (.array .int)) (by decide +kernel) rfl rfl d_m_init_281 ?_
  refine vj_aload_n (gbx B (e := 50) (a := 24) (b := 3351) (by decide)) (p9 := 0) d_m_init_284 rfl rfl ?_
  refine vj_bipush (gbx B (e := 50) (a := 24) (b := 3351) (by decide)) (v := 16) d_m_init_285 rfl ?_
  refine sn_i B (e := 50) (e' := 51) (a := 24) (a' := 25) (b := 3351) (b' := 3367) (k := 25) (n := 16) (z := 0) (by decide) lkR_25 (by decide +kernel) (by decide +kernel) (by decide +kernel) (by decide +kernel) (wof hw.2.1 (by decide +kernel)) (fun _ => rfl) qn_250 d_m_init_287 ?_
  refine sn_f B hnm (e := 51) (e' := 52) (a := 25) (b := 3367) (k := 0) (c := 0) (kk := 25) (j := 42) (by decide) flR_0_42 (by decide +kernel) (by decide +kernel) (by decide +kernel) (by decide +kernel) lkR_0 (by decide +kernel) obR_0 hw.1 clR_0 inR_0 toR_0 nmR_0 rfl q_1348 rfl rfl (ty := (.array .int)) (by decide +kernel) rfl rfl d_m_init_289 ?_
  refine vj_aload_n (gbx B (e := 52) (a := 25) (b := 3367) (by decide)) (p9 := 0) d_m_init_292 rfl rfl ?_
  refine vj_bipush (gbx B (e := 52) (a := 25) (b := 3367) (by decide)) (v := 16) d_m_init_293 rfl ?_
  refine sn_i B (e := 52) (e' := 53) (a := 25) (a' := 26) (b := 3367) (b' := 3383) (k := 26) (n := 16) (z := 0) (by decide) lkR_26 (by decide +kernel) (by decide +kernel) (by decide +kernel) (by decide +kernel) (wof hw.2.1 (by decide +kernel)) (fun _ => rfl) qn_250 d_m_init_295 ?_
  refine sn_f B hnm (e := 53) (e' := 54) (a := 26) (b := 3383) (k := 0) (c := 0) (kk := 26) (j := 43) (by decide) flR_0_43 (by decide +kernel) (by decide +kernel) (by decide +kernel) (by decide +kernel) lkR_0 (by decide +kernel) obR_0 hw.1 clR_0 inR_0 toR_0 nmR_0 rfl q_1349 rfl rfl (ty := (.array .int)) (by decide +kernel) rfl rfl d_m_init_297 ?_
  refine vj_aload_n (gbx B (e := 54) (a := 26) (b := 3383) (by decide)) (p9 := 0) d_m_init_300 rfl rfl ?_
  refine vj_bipush (gbx B (e := 54) (a := 26) (b := 3383) (by decide)) (v := 16) d_m_init_301 rfl ?_
  refine sn_i B (e := 54) (e' := 55) (a := 26) (a' := 27) (b := 3383) (b' := 3399) (k := 27) (n := 16) (z := 0) (by decide) lkR_27 (by decide +kernel) (by decide +kernel) (by decide +kernel) (by decide +kernel) (wof hw.2.1 (by decide +kernel)) (fun _ => rfl) qn_250 d_m_init_303 ?_
  refine sn_f B hnm (e := 55) (e' := 56) (a := 27) (b := 3399) (k := 0) (c := 0) (kk := 27) (j := 44) (by decide) flR_0_44 (by decide +kernel) (by decide +kernel) (by decide +kernel) (by decide +kernel) lkR_0 (by decide +kernel) obR_0 hw.1 clR_0 inR_0 toR_0 nmR_0 rfl q_1350 rfl rfl (ty := (.array .int)) (by decide +kernel) rfl rfl d_m_init_305 ?_
  refine vj_aload_n (gbx B (e := 56) (a := 27) (b := 3399) (by decide)) (p9 := 0) d_m_init_308 rfl rfl ?_
  refine vj_bipush (gbx B (e := 56) (a := 27) (b := 3399) (by decide)) (v := 16) d_m_init_309 rfl ?_
  refine sn_i B (e := 56) (e' := 57) (a := 27) (a' := 28) (b := 3399) (b' := 3415) (k := 28) (n := 16) (z := 0) (by decide) lkR_28 (by decide +kernel) (by decide +kernel) (by decide +kernel) (by decide +kernel) (wof hw.2.1 (by decide +kernel)) (fun _ => rfl) qn_250 d_m_init_311 ?_
  refine sn_f B hnm (e := 57) (e' := 58) (a := 28) (b := 3415) (k := 0) (c := 0) (kk := 28) (j := 45) (by decide) flR_0_45 (by decide +kernel) (by decide +kernel) (by decide +kernel) (by decide +kernel) lkR_0 (by decide +kernel) obR_0 hw.1 clR_0 inR_0 toR_0 nmR_0 rfl q_1351 rfl rfl (ty := (.array .int)) (by decide +kernel) rfl rfl d_m_init_313 ?_
  refine vj_aload_n (gbx B (e := 58) (a := 28) (b := 3415) (by decide)) (p9 := 0) d_m_init_316 rfl rfl ?_
  refine vj_bipush (gbx B (e := 58) (a := 28) (b := 3415) (by decide)) (v := 16) d_m_init_317 rfl ?_
  refine sn_i B (e := 58) (e' := 59) (a := 28) (a' := 29) (b := 3415) (b' := 3431) (k := 29) (n := 16) (z := 0) (by decide) lkR_29 (by decide +kernel) (by decide +kernel) (by decide +kernel) (by decide +kernel) (wof hw.2.1 (by decide +kernel)) (fun _ => rfl) qn_250 d_m_init_319 ?_
  refine sn_f B hnm (e := 59) (e' := 60) (a := 29) (b := 3431) (k := 0) (c := 0) (kk := 29) (j := 46) (by decide) flR_0_46 (by decide +kernel) (by decide +kernel) (by decide +kernel) (by decide +kernel) lkR_0 (by decide +kernel) obR_0 hw.1 clR_0 inR_0 toR_0 nmR_0 rfl q_1352 rfl rfl (ty := (.array .int)) (by decide +kernel) rfl rfl d_m_init_321 ?_
  refine vj_aload_n (gbx B (e := 60) (a := 29) (b := 3431) (by decide)) (p9 := 0) d_m_init_324 rfl rfl ?_
  refine vj_bipush (gbx B (e := 60) (a := 29) (b := 3431) (by decide)) (v := 7) d_m_init_325 rfl ?_
  refine sn_i B (e := 60) (e' := 61) (a := 29) (a' := 30) (b := 3431) (b' := 3438) (k := 30) (n := 7) (z := 0) (by decide) lkR_30 (by decide +kernel) (by decide +kernel) (by decide +kernel) (by decide +kernel) (wof hw.2.1 (by decide +kernel)) (fun _ => rfl) qn_250 d_m_init_327 ?_
  refine sn_f B hnm (e := 61) (e' := 62) (a := 30) (b := 3438) (k := 0) (c := 0) (kk := 30) (j := 47) (by decide) flR_0_47 (by decide +kernel) (by decide +kernel) (by decide +kernel) (by decide +kernel) lkR_0 (by decide +kernel) obR_0 hw.1 clR_0 inR_0 toR_0 nmR_0 rfl q_1353 rfl rfl (ty := (.array .int)) (by decide +kernel) rfl rfl d_m_init_329 ?_
  refine vj_aload_n (gbx B (e := 62) (a := 30) (b := 3438) (by decide)) (p9 := 0) d_m_init_332 rfl rfl ?_
  refine vj_iconst (gbx B (e := 62) (a := 30) (b := 3438) (by decide)) (v := 0) d_m_init_333 rfl ?_
  refine sn_p0 B (e := 62) (a := 30) (b := 3438) (k := 0) (c := 0) (j := 48) (v := 0) (by decide) flR_0_48 (by decide) lkR_0 (by decide +kernel) clR_0 inR_0 toR_0 nmR_0 rfl q_1354 rfl rfl (ty := .int) (by decide +kernel) rfl rfl rfl ir_0 rfl d_m_init_334 ?_
  refine vj_aload_n (gbx B (e := 62) (a := 30) (b := 3438) (by decide)) (p9 := 0) d_m_init_337 rfl rfl ?_
  refine vj_bipush (gbx B (e := 62) (a := 30) (b := 3438) (by decide)) (v := 16) d_m_init_338 rfl ?_
  refine sn_i B (e := 62) (e' := 63) (a := 30) (a' := 31) (b := 3438) (b' := 3454) (k := 31) (n := 16) (z := 0) (by decide) lkR_31 (by decide +kernel) (by decide +kernel) (by decide +kernel) (by decide +kernel) (wof hw.2.1 (by decide +kernel)) (fun _ => rfl) qn_250 d_m_init_340 ?_
  refine sn_f B hnm (e := 63) (e' := 64) (a := 31) (b := 3454) (k := 0) (c := 0) (kk := 31) (j := 49) (by decide) flR_0_49 (by decide +kernel) (by decide +kernel) (by decide +kernel) (by decide +kernel) lkR_0 (by decide +kernel) obR_0 hw.1 clR_0 inR_0 toR_0 nmR_0 rfl q_1355 rfl rfl (ty := (.array .int)) (by decide +kernel) rfl rfl d_m_init_342 ?_
  refine vj_aload_n (gbx B (e := 64) (a := 31) (b := 3454) (by decide)) (p9 := 0) d_m_init_345 rfl rfl ?_
  refine vj_bipush (gbx B (e := 64) (a := 31) (b := 3454) (by decide)) (v := 7) d_m_init_346 rfl ?_
  refine sn_i B (e := 64) (e' := 65) (a := 31) (a' := 32) (b := 3454) (b' := 3461) (k := 32) (n := 7) (z := 0) (by decide) lkR_32 (by decide +kernel) (by decide +kernel) (by decide +kernel) (by decide +kernel) (wof hw.2.1 (by decide +kernel)) (fun _ => rfl) qn_250 d_m_init_348 ?_
  refine sn_f B hnm (e := 65) (e' := 66) (a := 32) (b := 3461) (k := 0) (c := 0) (kk := 32) (j := 50) (by decide) flR_0_50 (by decide +kernel) (by decide +kernel) (by decide +kernel) (by decide +kernel) lkR_0 (by decide +kernel) obR_0 hw.1 clR_0 inR_0 toR_0 nmR_0 rfl q_1356 rfl rfl (ty := (.array .int)) (by decide +kernel) rfl rfl d_m_init_350 ?_
  refine vj_aload_n (gbx B (e := 66) (a := 32) (b := 3461) (by decide)) (p9 := 0) d_m_init_353 rfl rfl ?_
  refine vj_iconst (gbx B (e := 66) (a := 32) (b := 3461) (by decide)) (v := 0) d_m_init_354 rfl ?_
  refine sn_p0 B (e := 66) (a := 32) (b := 3461) (k := 0) (c := 0) (j := 51) (v := 0) (by decide) flR_0_51 (by decide) lkR_0 (by decide +kernel) clR_0 inR_0 toR_0 nmR_0 rfl q_1357 rfl rfl (ty := .int) (by decide +kernel) rfl rfl rfl ir_0 rfl d_m_init_355 ?_
  refine vj_aload_n (gbx B (e := 66) (a := 32) (b := 3461) (by decide)) (p9 := 0) d_m_init_358 rfl rfl ?_
  refine vj_bipush (gbx B (e := 66) (a := 32) (b := 3461) (by decide)) (v := 56) d_m_init_359 rfl ?_
  refine sn_j B (e := 66) (e' := 67) (a := 32) (a' := 33) (b := 3461) (b' := 3517) (k := 33) (n := 56) (z := 0) (by decide) lkR_33 (by decide +kernel) (by decide +kernel) (by decide +kernel) (by decide +kernel) (wof hw.2.1 (by decide +kernel)) (fun _ => rfl) qn_445 d_m_init_361 ?_
  refine sn_f B hnm (e := 67) (e' := 68) (a := 33) (b := 3517) (k := 0) (c := 0) (kk := 33) (j := 52) (by decide) flR_0_52 (by decide +kernel) (by decide +kernel) (by decide +kernel) (by decide +kernel) lkR_0 (by decide +kernel) obR_0 hw.1 clR_0 inR_0 toR_0 nmR_0 rfl q_1358 rfl rfl (ty := (.array .long)) (by decide +kernel) rfl rfl d_m_init_363 ?_
  refine vj_aload_n (gbx B (e := 68) (a := 33) (b := 3517) (by decide)) (p9 := 0) d_m_init_366 rfl rfl ?_
  refine vj_bipush (gbx B (e := 68) (a := 33) (b := 3517) (by decide)) (v := 7) d_m_init_367 rfl ?_
  refine sn_i B (e := 68) (e' := 69) (a := 33) (a' := 34) (b := 3517) (b' := 3524) (k := 34) (n := 7) (z := 0) (by decide) lkR_34 (by decide +kernel) (by decide +kernel) (by decide +kernel) (by decide +kernel) (wof hw.2.1 (by decide +kernel)) (fun _ => rfl) qn_250 d_m_init_369 ?_
  refine sn_f B hnm (e := 69) (e' := 70) (a := 34) (b := 3524) (k := 0) (c := 0) (kk := 34) (j := 53) (by decide) flR_0_53 (by decide +kernel) (by decide +kernel) (by decide +kernel) (by decide +kernel) lkR_0 (by decide +kernel) obR_0 hw.1 clR_0 inR_0 toR_0 nmR_0 rfl q_1359 rfl rfl (ty := (.array .int)) (by decide +kernel) rfl rfl d_m_init_371 ?_
  refine vj_aload_n (gbx B (e := 70) (a := 34) (b := 3524) (by decide)) (p9 := 0) d_m_init_374 rfl rfl ?_
  refine vj_bipush (gbx B (e := 70) (a := 34) (b := 3524) (by decide)) (v := 16) d_m_init_375 rfl ?_
  refine sn_i B (e := 70) (e' := 71) (a := 34) (a' := 35) (b := 3524) (b' := 3540) (k := 35) (n := 16) (z := 0) (by decide) lkR_35 (by decide +kernel) (by decide +kernel) (by decide +kernel) (by decide +kernel) (wof hw.2.1 (by decide +kernel)) (fun _ => rfl) qn_250 d_m_init_377 ?_
  refine sn_f B hnm (e := 71) (e' := 72) (a := 35) (b := 3540) (k := 0) (c := 0) (kk := 35) (j := 54) (by decide) flR_0_54 (by decide +kernel) (by decide +kernel) (by decide +kernel) (by decide +kernel) lkR_0 (by decide +kernel) obR_0 hw.1 clR_0 inR_0 toR_0 nmR_0 rfl q_1360 rfl rfl (ty := (.array .int)) (by decide +kernel) rfl rfl d_m_init_379 ?_
  refine vj_aload_n (gbx B (e := 72) (a := 35) (b := 3540) (by decide)) (p9 := 0) d_m_init_382 rfl rfl ?_
  refine vj_iconst (gbx B (e := 72) (a := 35) (b := 3540) (by decide)) (v := 0) d_m_init_383 rfl ?_
  refine sn_p0 B (e := 72) (a := 35) (b := 3540) (k := 0) (c := 0) (j := 55) (v := 0) (by decide) flR_0_55 (by decide) lkR_0 (by decide +kernel) clR_0 inR_0 toR_0 nmR_0 rfl q_1361 rfl rfl (ty := .int) (by decide +kernel) rfl rfl rfl ir_0 rfl d_m_init_384 ?_
  refine vj_aload_n (gbx B (e := 72) (a := 35) (b := 3540) (by decide)) (p9 := 0) d_m_init_387 rfl rfl ?_
  refine vj_bipush (gbx B (e := 72) (a := 35) (b := 3540) (by decide)) (v := 16) d_m_init_388 rfl ?_
  refine sn_i B (e := 72) (e' := 73) (a := 35) (a' := 36) (b := 3540) (b' := 3556) (k := 36) (n := 16) (z := 0) (by decide) lkR_36 (by decide +kernel) (by decide +kernel) (by decide +kernel) (by decide +kernel) (wof hw.2.1 (by decide +kernel)) (fun _ => rfl) qn_250 d_m_init_390 ?_
  refine sn_f B hnm (e := 73) (e' := 74) (a := 36) (b := 3556) (k := 0) (c := 0) (kk := 36) (j := 56) (by decide) flR_0_56 (by decide +kernel) (by decide +kernel) (by decide +kernel) (by decide +kernel) lkR_0 (by decide +kernel) obR_0 hw.1 clR_0 inR_0 toR_0 nmR_0 rfl q_1362 rfl rfl (ty := (.array .int)) (by decide +kernel) rfl rfl d_m_init_392 ?_
  refine vj_aload_n (gbx B (e := 74) (a := 36) (b := 3556) (by decide)) (p9 := 0) d_m_init_395 rfl rfl ?_
  refine vj_bipush (gbx B (e := 74) (a := 36) (b := 3556) (by decide)) (v := 16) d_m_init_396 rfl ?_
  refine sn_i B (e := 74) (e' := 75) (a := 36) (a' := 37) (b := 3556) (b' := 3572) (k := 37) (n := 16) (z := 0) (by decide) lkR_37 (by decide +kernel) (by decide +kernel) (by decide +kernel) (by decide +kernel) (wof hw.2.1 (by decide +kernel)) (fun _ => rfl) qn_250 d_m_init_398 ?_
  refine sn_f B hnm (e := 75) (e' := 76) (a := 37) (b := 3572) (k := 0) (c := 0) (kk := 37) (j := 57) (by decide) flR_0_57 (by decide +kernel) (by decide +kernel) (by decide +kernel) (by decide +kernel) lkR_0 (by decide +kernel) obR_0 hw.1 clR_0 inR_0 toR_0 nmR_0 rfl q_1363 rfl rfl (ty := (.array .int)) (by decide +kernel) rfl rfl d_m_init_400 ?_
  refine vj_aload_n (gbx B (e := 76) (a := 37) (b := 3572) (by decide)) (p9 := 0) d_m_init_403 rfl rfl ?_
  refine vj_bipush (gbx B (e := 76) (a := 37) (b := 3572) (by decide)) (v := 12) d_m_init_404 rfl ?_
  refine sn_i B (e := 76) (e' := 77) (a := 37) (a' := 38) (b := 3572) (b' := 3584) (k := 38) (n := 12) (z := 0) (by decide) lkR_38 (by decide +kernel) (by decide +kernel) (by decide +kernel) (by decide +kernel) (wof hw.2.1 (by decide +kernel)) (fun _ => rfl) qn_250 d_m_init_406 ?_
  refine sn_f B hnm (e := 77) (e' := 78) (a := 38) (b := 3584) (k := 0) (c := 0) (kk := 38) (j := 58) (by decide) flR_0_58 (by decide +kernel) (by decide +kernel) (by decide +kernel) (by decide +kernel) lkR_0 (by decide +kernel) obR_0 hw.1 clR_0 inR_0 toR_0 nmR_0 rfl q_1364 rfl rfl (ty := (.array .int)) (by decide +kernel) rfl rfl d_m_init_408 ?_
  refine vj_aload_n (gbx B (e := 78) (a := 38) (b := 3584) (by decide)) (p9 := 0) d_m_init_411 rfl rfl ?_
  refine vj_bipush (gbx B (e := 78) (a := 38) (b := 3584) (by decide)) (v := 16) d_m_init_412 rfl ?_
  refine sn_i B (e := 78) (e' := 79) (a := 38) (a' := 39) (b := 3584) (b' := 3600) (k := 39) (n := 16) (z := 0) (by decide) lkR_39 (by decide +kernel) (by decide +kernel) (by decide +kernel) (by decide +kernel) (wof hw.2.1 (by decide +kernel)) (fun _ => rfl) qn_250 d_m_init_414 ?_
  refine sn_f B hnm (e := 79) (e' := 80) (a := 39) (b := 3600) (k := 0) (c := 0) (kk := 39) (j := 59) (by decide) flR_0_59 (by decide +kernel) (by decide +kernel) (by decide +kernel) (by decide +kernel) lkR_0 (by decide +kernel) obR_0 hw.1 clR_0 inR_0 toR_0 nmR_0 rfl q_1365 rfl rfl (ty := (.array .int)) (by decide +kernel) rfl rfl d_m_init_416 ?_
  refine vj_aload_n (gbx B (e := 80) (a := 39) (b := 3600) (by decide)) (p9 := 0) d_m_init_419 rfl rfl ?_
  refine vj_iconst (gbx B (e := 80) (a := 39) (b := 3600) (by decide)) (v := 0) d_m_init_420 rfl ?_
  refine sn_p0 B (e := 80) (a := 39) (b := 3600) (k := 0) (c := 0) (j := 60) (v := 0) (by decide) flR_0_60 (by decide) lkR_0 (by decide +kernel) clR_0 inR_0 toR_0 nmR_0 rfl q_1366 rfl rfl (ty := .int) (by decide +kernel) rfl rfl rfl ir_0 rfl d_m_init_421 ?_
  refine vj_aload_n (gbx B (e := 80) (a := 39) (b := 3600) (by decide)) (p9 := 0) d_m_init_424 rfl rfl ?_
  refine vj_lconst (gbx B (e := 80) (a := 39) (b := 3600) (by decide)) (v := 0) d_m_init_425 rfl ?_
  refine sn_p0 B (e := 80) (a := 39) (b := 3600) (k := 0) (c := 0) (j := 61) (v := 0) (by decide) flR_0_61 (by decide) lkR_0 (by decide +kernel) clR_0 inR_0 toR_0 nmR_0 rfl q_1367 rfl rfl (ty := .long) (by decide +kernel) rfl rfl rfl (lr_i ir_0) rfl d_m_init_426 ?_
  refine vj_aload_n (gbx B (e := 80) (a := 39) (b := 3600) (by decide)) (p9 := 0) d_m_init_429 rfl rfl ?_
  refine vj_iconst (gbx B (e := 80) (a := 39) (b := 3600) (by decide)) (v := 0) d_m_init_430 rfl ?_
  refine sn_p0 B (e := 80) (a := 39) (b := 3600) (k := 0) (c := 0) (j := 62) (v := 0) (by decide) flR_0_62 (by decide) lkR_0 (by decide +kernel) clR_0 inR_0 toR_0 nmR_0 rfl q_1368 rfl rfl (ty := .int) (by decide +kernel) rfl rfl rfl ir_0 rfl d_m_init_431 ?_
  refine vj_aload_n (gbx B (e := 80) (a := 39) (b := 3600) (by decide)) (p9 := 0) d_m_init_434 rfl rfl ?_
  refine vj_iconst (gbx B (e := 80) (a := 39) (b := 3600) (by decide)) (v := 0) d_m_init_435 rfl ?_
  refine sn_p0 B (e := 80) (a := 39) (b := 3600) (k := 0) (c := 0) (j := 63) (v := 0) (by decide) flR_0_63 (by decide) lkR_0 (by decide +kernel) clR_0 inR_0 toR_0 nmR_0 rfl q_1369 rfl rfl (ty := .int) (by decide +kernel) rfl rfl rfl ir_0 rfl d_m_init_436 ?_
  refine vj_aload_n (gbx B (e := 80) (a := 39) (b := 3600) (by decide)) (p9 := 0) d_m_init_439 rfl rfl ?_
  refine vj_bipush (gbx B (e := 80) (a := 39) (b := 3600) (by decide)) (v := 30) d_m_init_440 rfl ?_
  refine sn_i B (e := 80) (e' := 81) (a := 39) (a' := 40) (b := 3600) (b' := 3630) (k := 40) (n := 30) (z := 0) (by decide) lkR_40 (by decide +kernel) (by decide +kernel) (by decide +kernel) (by decide +kernel) (wof hw.2.1 (by decide +kernel)) (fun _ => rfl) qn_250 d_m_init_442 ?_
  refine sn_f B hnm (e := 81) (e' := 82) (a := 40) (b := 3630) (k := 0) (c := 0) (kk := 40) (j := 64) (by decide) flR_0_64 (by decide +kernel) (by decide +kernel) (by decide +kernel) (by decide +kernel) lkR_0 (by decide +kernel) obR_0 hw.1 clR_0 inR_0 toR_0 nmR_0 rfl q_1370 rfl rfl (ty := (.array .int)) (by decide +kernel) rfl rfl d_m_init_444 ?_
  refine vj_aload_n (gbx B (e := 82) (a := 40) (b := 3630) (by decide)) (p9 := 0) d_m_init_447 rfl rfl ?_
  refine vj_bipush (gbx B (e := 82) (a := 40) (b := 3630) (by decide)) (v := 30) d_m_init_448 rfl ?_
  refine sn_i B (e := 82) (e' := 83) (a := 40) (a' := 41) (b := 3630) (b' := 3660) (k := 41) (n := 30) (z := 0) (by decide) lkR_41 (by decide +kernel) (by decide +kernel) (by decide +kernel) (by decide +kernel) (wof hw.2.1 (by decide +kernel)) (fun _ => rfl) qn_250 d_m_init_450 ?_
  refine sn_f B hnm (e := 83) (e' := 84) (a := 41) (b := 3660) (k := 0) (c := 0) (kk := 41) (j := 65) (by decide) flR_0_65 (by decide +kernel) (by decide +kernel) (by decide +kernel) (by decide +kernel) lkR_0 (by decide +kernel) obR_0 hw.1 clR_0 inR_0 toR_0 nmR_0 rfl q_1371 rfl rfl (ty := (.array .int)) (by decide +kernel) rfl rfl d_m_init_452 ?_
  refine vj_aload_n (gbx B (e := 84) (a := 41) (b := 3660) (by decide)) (p9 := 0) d_m_init_455 rfl rfl ?_
  refine vj_bipush (gbx B (e := 84) (a := 41) (b := 3660) (by decide)) (v := 16) d_m_init_456 rfl ?_
  refine sn_i B (e := 84) (e' := 85) (a := 41) (a' := 42) (b := 3660) (b' := 3676) (k := 42) (n := 16) (z := 0) (by decide) lkR_42 (by decide +kernel) (by decide +kernel) (by decide +kernel) (by decide +kernel) (wof hw.2.1 (by decide +kernel)) (fun _ => rfl) qn_250 d_m_init_458 ?_
  refine sn_f B hnm (e := 85) (e' := 86) (a := 42) (b := 3676) (k := 0) (c := 0) (kk := 42) (j := 66) (by decide) flR_0_66 (by decide +kernel) (by decide +kernel) (by decide +kernel) (by decide +kernel) lkR_0 (by decide +kernel) obR_0 hw.1 clR_0 inR_0 toR_0 nmR_0 rfl q_1372 rfl rfl (ty := (.array .int)) (by decide +kernel) rfl rfl d_m_init_460 ?_
  refine vj_aload_n (gbx B (e := 86) (a := 42) (b := 3676) (by decide)) (p9 := 0) d_m_init_463 rfl rfl ?_
  refine vj_bipush (gbx B (e := 86) (a := 42) (b := 3676) (by decide)) (v := 16) d_m_init_464 rfl ?_
  refine sn_i B (e := 86) (e' := 87) (a := 42) (a' := 43) (b := 3676) (b' := 3692) (k := 43) (n := 16) (z := 0) (by decide) lkR_43 (by decide +kernel) (by decide +kernel) (by decide +kernel) (by decide +kernel) (wof hw.2.1 (by decide +kernel)) (fun _ => rfl) qn_250 d_m_init_466 ?_
  refine sn_f B hnm (e := 87) (e' := 88) (a := 43) (b := 3692) (k := 0) (c := 0) (kk := 43) (j := 67) (by decide) flR_0_67 (by decide +kernel) (by decide +kernel) (by decide +kernel) (by decide +kernel) lkR_0 (by decide +kernel) obR_0 hw.1 clR_0 inR_0 toR_0 nmR_0 rfl q_1373 rfl rfl (ty := (.array .int)) (by decide +kernel) rfl rfl d_m_init_468 ?_
  refine vj_aload_n (gbx B (e := 88) (a := 43) (b := 3692) (by decide)) (p9 := 0) d_m_init_471 rfl rfl ?_
  refine vj_bipush (gbx B (e := 88) (a := 43) (b := 3692) (by decide)) (v := 16) d_m_init_472 rfl ?_
  refine sn_i B (e := 88) (e' := 89) (a := 43) (a' := 44) (b := 3692) (b' := 3708) (k := 44) (n := 16) (z := 0) (by decide) lkR_44 (by decide +kernel) (by decide +kernel) (by decide +kernel) (by decide +kernel) (wof hw.2.1 (by decide +kernel)) (fun _ => rfl) qn_250 d_m_init_474 ?_
  refine sn_f B hnm (e := 89) (e' := 90) (a := 44) (b := 3708) (k := 0) (c := 0) (kk := 44) (j := 68) (by decide) flR_0_68 (by decide +kernel) (by decide +kernel) (by decide +kernel) (by decide +kernel) lkR_0 (by decide +kernel) obR_0 hw.1 clR_0 inR_0 toR_0 nmR_0 rfl q_1374 rfl rfl (ty := (.array .int)) (by decide +kernel) rfl rfl d_m_init_476 ?_
  refine vj_aload_n (gbx B (e := 90) (a := 44) (b := 3708) (by decide)) (p9 := 0) d_m_init_479 rfl rfl ?_
  refine vj_bipush (gbx B (e := 90) (a := 44) (b := 3708) (by decide)) (v := 7) d_m_init_480 rfl ?_
  refine sn_i B (e := 90) (e' := 91) (a := 44) (a' := 45) (b := 3708) (b' := 3715) (k := 45) (n := 7) (z := 0) (by decide) lkR_45 (by decide +kernel) (by decide +kernel) (by decide +kernel) (by decide +kernel) (wof hw.2.1 (by decide +kernel)) (fun _ => rfl) qn_250 d_m_init_482 ?_
  refine sn_f B hnm (e := 91) (e' := 92) (a := 45) (b := 3715) (k := 0) (c := 0) (kk := 45) (j := 69) (by decide) flR_0_69 (by decide +kernel) (by decide +kernel) (by decide +kernel) (by decide +kernel) lkR_0 (by decide +kernel) obR_0 hw.1 clR_0 inR_0 toR_0 nmR_0 rfl q_1375 rfl rfl (ty := (.array .int)) (by decide +kernel) rfl rfl d_m_init_484 ?_
  refine vj_aload_n (gbx B (e := 92) (a := 45) (b := 3715) (by decide)) (p9 := 0) d_m_init_487 rfl rfl ?_
  refine vj_iconst (gbx B (e := 92) (a := 45) (b := 3715) (by decide)) (v := 0) d_m_init_488 rfl ?_
  refine sn_p0 B (e := 92) (a := 45) (b := 3715) (k := 0) (c := 0) (j := 70) (v := 0) (by decide) flR_0_70 (by decide) lkR_0 (by decide +kernel) clR_0 inR_0 toR_0 nmR_0 rfl q_1376 rfl rfl (ty := .int) (by decide +kernel) rfl rfl rfl ir_0 rfl d_m_init_489 ?_
  refine vj_aload_n (gbx B (e := 92) (a := 45) (b := 3715) (by decide)) (p9 := 0) d_m_init_492 rfl rfl ?_
  refine vj_iconst (gbx B (e := 92) (a := 45) (b := 3715) (by decide)) (v := 0) d_m_init_493 rfl ?_
  refine sn_p0 B (e := 92) (a := 45) (b := 3715) (k := 0) (c := 0) (j := 71) (v := 0) (by decide) flR_0_71 (by decide) lkR_0 (by decide +kernel) clR_0 inR_0 toR_0 nmR_0 rfl q_1377 rfl rfl (ty := .int) (by decide +kernel) rfl rfl rfl ir_0 rfl d_m_init_494 ?_
  refine vj_aload_n (gbx B (e := 92) (a := 45) (b := 3715) (by decide)) (p9 := 0) d_m_init_497 rfl rfl ?_
  refine vj_bipush (gbx B (e := 92) (a := 45) (b := 3715) (by decide)) (v := 20) d_m_init_498 rfl ?_
  refine sn_i B (e := 92) (e' := 93) (a := 45) (a' := 46) (b := 3715) (b' := 3735) (k := 46) (n := 20) (z := 0) (by decide) lkR_46 (by decide +kernel) (by decide +kernel) (by decide +kernel) (by decide +kernel) (wof hw.2.1 (by decide +kernel)) (fun _ => rfl) qn_250 d_m_init_500 ?_
  refine sn_f B hnm (e := 93) (e' := 94) (a := 46) (b := 3735) (k := 0) (c := 0) (kk := 46) (j := 72) (by decide) flR_0_72 (by decide +kernel) (by decide +kernel) (by decide +kernel) (by decide +kernel) lkR_0 (by decide +kernel) obR_0 hw.1 clR_0 inR_0 toR_0 nmR_0 rfl q_1378 rfl rfl (ty := (.array .int)) (by decide +kernel) rfl rfl d_m_init_502 ?_
  refine vj_aload_n (gbx B (e := 94) (a := 46) (b := 3735) (by decide)) (p9 := 0) d_m_init_505 rfl rfl ?_
  refine vj_bipush (gbx B (e := 94) (a := 46) (b := 3735) (by decide)) (v := 6) d_m_init_506 rfl ?_
  refine sn_i B (e := 94) (e' := 95) (a := 46) (a' := 47) (b := 3735) (b' := 3741) (k := 47) (n := 6) (z := 0) (by decide) lkR_47 (by decide +kernel) (by decide +kernel) (by decide +kernel) (by decide +kernel) (wof hw.2.1 (by decide +kernel)) (fun _ => rfl) qn_250 d_m_init_508 ?_
  refine vj_dup (gbx B (e := 95) (a := 47) (b := 3741) (by decide)) d_m_init_510 rfl ?_
  refine vj_iconst (gbx B (e := 95) (a := 47) (b := 3741) (by decide)) (v := 0) d_m_init_511 rfl ?_
  refine vj_iconst (gbx B (e := 95) (a := 47) (b := 3741) (by decide)) (v := -1) d_m_init_512 rfl ?_
  refine vj_iast (gbx B (e := 95) (a := 47) (b := 3741) (by decide)) (x := 0) (k := 47) ((stL_at (show evO evR 47 < 95 by decide +kernel)).trans lkR_47) (by decide) (by decide) (by decide) (by decide) ic_m1 d_m_init_513 ?_
  refine vj_dup (gbx B (e := 95) (a := 47) (b := 3741) (by decide)) d_m_init_514 rfl ?_
  refine vj_iconst (gbx B (e := 95) (a := 47) (b := 3741) (by decide)) (v := 1) d_m_init_515 rfl ?_
  refine vj_iconst (gbx B (e := 95) (a := 47) (b := 3741) (by decide)) (v := -1) d_m_init_516 rfl ?_
  refine vj_iast (gbx B (e := 95) (a := 47) (b := 3741) (by decide)) (x := 1) (k := 47) ((stL_at (show evO evR 47 < 95 by decide +kernel)).trans lkR_47) (by decide) (by decide) (by decide) (by decide) ic_m1 d_m_init_517 ?_
  refine vj_dup (gbx B (e := 95) (a := 47) (b := 3741) (by decide)) d_m_init_518 rfl ?_
  refine vj_iconst (gbx B (e := 95) (a := 47) (b := 3741) (by decide)) (v := 2) d_m_init_519 rfl ?_
  refine vj_iconst (gbx B (e := 95) (a := 47) (b := 3741) (by decide)) (v := -1) d_m_init_520 rfl ?_
  refine vj_iast (gbx B (e := 95) (a := 47) (b := 3741) (by decide)) (x := 2) (k := 47) ((stL_at (show evO evR 47 < 95 by decide +kernel)).trans lkR_47) (by decide) (by decide) (by decide) (by decide) ic_m1 d_m_init_521 ?_
  refine vj_dup (gbx B (e := 95) (a := 47) (b := 3741) (by decide)) d_m_init_522 rfl ?_
  refine vj_iconst (gbx B (e := 95) (a := 47) (b := 3741) (by decide)) (v := 3) d_m_init_523 rfl ?_
  refine vj_iconst (gbx B (e := 95) (a := 47) (b := 3741) (by decide)) (v := -1) d_m_init_524 rfl ?_
  refine vj_iast (gbx B (e := 95) (a := 47) (b := 3741) (by decide)) (x := 3) (k := 47) ((stL_at (show evO evR 47 < 95 by decide +kernel)).trans lkR_47) (by decide) (by decide) (by decide) (by decide) ic_m1 d_m_init_525 ?_
  refine vj_dup (gbx B (e := 95) (a := 47) (b := 3741) (by decide)) d_m_init_526 rfl ?_
  refine vj_iconst (gbx B (e := 95) (a := 47) (b := 3741) (by decide)) (v := 4) d_m_init_527 rfl ?_
  refine vj_iconst (gbx B (e := 95) (a := 47) (b := 3741) (by decide)) (v := -1) d_m_init_528 rfl ?_
  refine vj_iast (gbx B (e := 95) (a := 47) (b := 3741) (by decide)) (x := 4) (k := 47) ((stL_at (show evO evR 47 < 95 by decide +kernel)).trans lkR_47) (by decide) (by decide) (by decide) (by decide) ic_m1 d_m_init_529 ?_
  refine vj_dup (gbx B (e := 95) (a := 47) (b := 3741) (by decide)) d_m_init_530 rfl ?_
  refine vj_iconst (gbx B (e := 95) (a := 47) (b := 3741) (by decide)) (v := 5) d_m_init_531 rfl ?_
  refine vj_iconst (gbx B (e := 95) (a := 47) (b := 3741) (by decide)) (v := -1) d_m_init_532 rfl ?_
  refine vj_iast (gbx B (e := 95) (a := 47) (b := 3741) (by decide)) (x := 5) (k := 47) ((stL_at (show evO evR 47 < 95 by decide +kernel)).trans lkR_47) (by decide) (by decide) (by decide) (by decide) ic_m1 d_m_init_533 ?_
  refine sn_f B hnm (e := 95) (e' := 96) (a := 47) (b := 3741) (k := 0) (c := 0) (kk := 47) (j := 73) (by decide) flR_0_73 (by decide +kernel) (by decide +kernel) (by decide +kernel) (by decide +kernel) lkR_0 (by decide +kernel) obR_0 hw.1 clR_0 inR_0 toR_0 nmR_0 rfl q_1379 rfl rfl (ty := (.array .int)) (by decide +kernel) rfl rfl d_m_init_534 ?_
  refine vj_aload_n (gbx B (e := 96) (a := 47) (b := 3741) (by decide)) (p9 := 0) d_m_init_537 rfl rfl ?_
  refine vj_bipush (gbx B (e := 96) (a := 47) (b := 3741) (by decide)) (v := 6) d_m_init_538 rfl ?_
  refine sn_i B (e := 96) (e' := 97) (a := 47) (a' := 48) (b := 3741) (b' := 3747) (k := 48) (n := 6) (z := 0) (by decide) lkR_48 (by decide +kernel) (by decide +kernel) (by decide +kernel) (by decide +kernel) (wof hw.2.1 (by decide +kernel)) (fun _ => rfl) qn_250 d_m_init_540 ?_
  refine sn_f B hnm (e := 97) (e' := 98) (a := 48) (b := 3747) (k := 0) (c := 0) (kk := 48) (j := 74) (by decide) flR_0_74 (by decide +kernel) (by decide +kernel) (by decide +kernel) (by decide +kernel) lkR_0 (by decide +kernel) obR_0 hw.1 clR_0 inR_0 toR_0 nmR_0 rfl q_1380 rfl rfl (ty := (.array .int)) (by decide +kernel) rfl rfl d_m_init_542 ?_
  refine vj_aload_n (gbx B (e := 98) (a := 48) (b := 3747) (by decide)) (p9 := 0) d_m_init_545 rfl rfl ?_
  refine vj_sipush (gbx B (e := 98) (a := 48) (b := 3747) (by decide)) (v := 360) d_m_init_546 rfl ?_
  refine sn_j B (e := 98) (e' := 99) (a := 48) (a' := 49) (b := 3747) (b' := 4107) (k := 49) (n := 360) (z := 0) (by decide) lkR_49 (by decide +kernel) (by decide +kernel) (by decide +kernel) (by decide +kernel) (wof hw.2.1 (by decide +kernel)) (fun _ => rfl) qn_445 d_m_init_549 ?_
  refine sn_f B hnm (e := 99) (e' := 100) (a := 49) (b := 4107) (k := 0) (c := 0) (kk := 49) (j := 75) (by decide) flR_0_75 (by decide +kernel) (by decide +kernel) (by decide +kernel) (by decide +kernel) lkR_0 (by decide +kernel) obR_0 hw.1 clR_0 inR_0 toR_0 nmR_0 rfl q_1381 rfl rfl (ty := (.array .long)) (by decide +kernel) rfl rfl d_m_init_551 ?_
  refine vj_aload_n (gbx B (e := 100) (a := 49) (b := 4107) (by decide)) (p9 := 0) d_m_init_554 rfl rfl ?_
  refine vj_bipush (gbx B (e := 100) (a := 49) (b := 4107) (by decide)) (v := 60) d_m_init_555 rfl ?_
  refine sn_j B (e := 100) (e' := 101) (a := 49) (a' := 50) (b := 4107) (b' := 4167) (k := 50) (n := 60) (z := 0) (by decide) lkR_50 (by decide +kernel) (by decide +kernel) (by decide +kernel) (by decide +kernel) (wof hw.2.1 (by decide +kernel)) (fun _ => rfl) qn_445 d_m_init_557 ?_
  refine sn_f B hnm (e := 101) (e' := 102) (a := 50) (b := 4167) (k := 0) (c := 0) (kk := 50) (j := 76) (by decide) flR_0_76 (by decide +kernel) (by decide +kernel) (by decide +kernel) (by decide +kernel) lkR_0 (by decide +kernel) obR_0 hw.1 clR_0 inR_0 toR_0 nmR_0 rfl q_1382 rfl rfl (ty := (.array .long)) (by decide +kernel) rfl rfl d_m_init_559 ?_
  exact sn_ret B G9 (by decide) d_m_init_562
