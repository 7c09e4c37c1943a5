/-! Written by wip/whole/gen/inits.py. The class's constructors. -/
set_option maxHeartbeats 8000000 in
set_option maxRecDepth 100000 in
theorem cn_R {w : Wd} (hw : WCC w) : Ctn (SgC 5) (SgC 33) w y_R_init b_R_init 1 none 1 14 791 20 0 [.ref (wa w 1)] Z0 0 (Z0) := by
  refine Ctn.of (ij_st hw.1) (KstS KstLC9 _) (fun k h => pr_sm (by decide) h) (hnew_st hw.2.1 (by decide) (by decide +kernel)) (by decide +kernel) (Nat.le_of_ble_eq_true rfl) (fun X G9 => ?_)
  have B : GB (SLy LC9 evC efC cnC 0) w X "WhoRules$Register" b_R_init 1 1 20 5 33 14 791 := gb_of hw.1 KstLC9 G9
  have hnm : (xM X).name = "<init>" := G9.2.2.2.2.2.2.2.2
  show VJ (SgC 5) w (xInc X 0 0) 1 0 0 (Z0) Z0 [(0, .ref (wa w 1))] [] 0
  refine vj_aload_n (gbx B (e := 5) (a := 0) (b := 0) (by decide)) (p9 := 0) d_R_init_0 rfl rfl ?_
  refine vj_objInit (gbx B (e := 5) (a := 0) (b := 0) (by decide)) q_143 qo_inst qo_code (by decide) (by decide) (by decide) d_R_init_1 ?_
  refine vj_aload_n (gbx B (e := 5) (a := 0) (b := 0) (by decide)) (p9 := 0) d_R_init_4 rfl rfl ?_
  refine vj_bipush (gbx B (e := 5) (a := 0) (b := 0) (by decide)) (v := 16) d_R_init_5 rfl ?_
  refine sn_h B (e := 5) (e' := 6) (a := 0) (a' := 1) (b := 0) (b' := 16) (k := 16) (n := 16) (z := 500) (by decide) lkC_16 (by decide +kernel) (by decide +kernel) (by decide +kernel) (by decide +kernel) (wof hw.2.1 (by decide +kernel)) (fun _ => rfl) hw.2.2 (gbx B (e := 5) (a := 0) (b := 0) (by decide)).2.2.2.2.2.2.1.2.1 q_144 d_R_init_7 ?_
  refine sn_f B hnm (e := 6) (e' := 7) (a := 1) (b := 16) (k := 1) (c := 7) (kk := 16) (j := 5) (by decide) flC_7_5 (by decide +kernel) (by decide +kernel) (by decide +kernel) (by decide +kernel) lkC_1 (by decide +kernel) obC_7 hw.1 clC_7 inC_7 toC_7 nmC_7 rfl q_169 rfl rfl (ty := (.array (.object "WhoRules$Holder"))) (by decide +kernel) rfl rfl d_R_init_10 ?_
  refine vj_aload_n (gbx B (e := 7) (a := 1) (b := 16) (by decide)) (p9 := 0) d_R_init_13 rfl rfl ?_
  refine vj_bipush (gbx B (e := 7) (a := 1) (b := 16) (by decide)) (v := 16) d_R_init_14 rfl ?_
  refine sn_i B (e := 7) (e' := 8) (a := 1) (a' := 2) (b := 16) (b' := 32) (k := 17) (n := 16) (z := 0) (by decide) lkC_17 (by decide +kernel) (by decide +kernel) (by decide +kernel) (by decide +kernel) (wof hw.2.1 (by decide +kernel)) (fun _ => rfl) qn_250 d_R_init_16 ?_
  refine sn_f B hnm (e := 8) (e' := 9) (a := 2) (b := 32) (k := 1) (c := 7) (kk := 17) (j := 6) (by decide) flC_7_6 (by decide +kernel) (by decide +kernel) (by decide +kernel) (by decide +kernel) lkC_1 (by decide +kernel) obC_7 hw.1 clC_7 inC_7 toC_7 nmC_7 rfl q_170 rfl rfl (ty := (.array .int)) (by decide +kernel) rfl rfl d_R_init_18 ?_
  refine vj_aload_n (gbx B (e := 9) (a := 2) (b := 32) (by decide)) (p9 := 0) d_R_init_21 rfl rfl ?_
  refine vj_bipush (gbx B (e := 9) (a := 2) (b := 32) (by decide)) (v := 16) d_R_init_22 rfl ?_
  refine sn_i B (e := 9) (e' := 10) (a := 2) (a' := 3) (b := 32) (b' := 48) (k := 18) (n := 16) (z := 0) (by decide) lkC_18 (by decide +kernel) (by decide +kernel) (by decide +kernel) (by decide +kernel) (wof hw.2.1 (by decide +kernel)) (fun _ => rfl) qn_250 d_R_init_24 ?_
  refine sn_f B hnm (e := 10) (e' := 11) (a := 3) (b := 48) (k := 1) (c := 7) (kk := 18) (j := 7) (by decide) flC_7_7 (by decide +kernel) (by decide +kernel) (by decide +kernel) (by decide +kernel) lkC_1 (by decide +kernel) obC_7 hw.1 clC_7 inC_7 toC_7 nmC_7 rfl q_173 rfl rfl (ty := (.array .int)) (by decide +kernel) rfl rfl d_R_init_26 ?_
  refine vj_aload_n (gbx B (e := 11) (a := 3) (b := 48) (by decide)) (p9 := 0) d_R_init_29 rfl rfl ?_
  refine vj_bipush (gbx B (e := 11) (a := 3) (b := 48) (by decide)) (v := 7) d_R_init_30 rfl ?_
  refine sn_i B (e := 11) (e' := 12) (a := 3) (a' := 4) (b := 48) (b' := 55) (k := 19) (n := 7) (z := 0) (by decide) lkC_19 (by decide +kernel) (by decide +kernel) (by decide +kernel) (by decide +kernel) (wof hw.2.1 (by decide +kernel)) (fun _ => rfl) qn_250 d_R_init_32 ?_
  refine sn_f B hnm (e := 12) (e' := 13) (a := 4) (b := 55) (k := 1) (c := 7) (kk := 19) (j := 8) (by decide) flC_7_8 (by decide +kernel) (by decide +kernel) (by decide +kernel) (by decide +kernel) lkC_1 (by decide +kernel) obC_7 hw.1 clC_7 inC_7 toC_7 nmC_7 rfl q_175 rfl rfl (ty := (.array .int)) (by decide +kernel) rfl rfl d_R_init_34 ?_
  refine vj_aload_n (gbx B (e := 13) (a := 4) (b := 55) (by decide)) (p9 := 0) d_R_init_37 rfl rfl ?_
  refine vj_bipush (gbx B (e := 13) (a := 4) (b := 55) (by decide)) (v := 16) d_R_init_38 rfl ?_
  refine sn_i B (e := 13) (e' := 14) (a := 4) (a' := 5) (b := 55) (b' := 71) (k := 20) (n := 16) (z := 0) (by decide) lkC_20 (by decide +kernel) (by decide +kernel) (by decide +kernel) (by decide +kernel) (wof hw.2.1 (by decide +kernel)) (fun _ => rfl) qn_250 d_R_init_40 ?_
  refine sn_f B hnm (e := 14) (e' := 15) (a := 5) (b := 71) (k := 1) (c := 7) (kk := 20) (j := 9) (by decide) flC_7_9 (by decide +kernel) (by decide +kernel) (by decide +kernel) (by decide +kernel) lkC_1 (by decide +kernel) obC_7 hw.1 clC_7 inC_7 toC_7 nmC_7 rfl q_179 rfl rfl (ty := (.array .int)) (by decide +kernel) rfl rfl d_R_init_42 ?_
  refine vj_aload_n (gbx B (e := 15) (a := 5) (b := 71) (by decide)) (p9 := 0) d_R_init_45 rfl rfl ?_
  refine vj_bipush (gbx B (e := 15) (a := 5) (b := 71) (by decide)) (v := 40) d_R_init_46 rfl ?_
  refine sn_i B (e := 15) (e' := 16) (a := 5) (a' := 6) (b := 71) (b' := 111) (k := 21) (n := 40) (z := 0) (by decide) lkC_21 (by decide +kernel) (by decide +kernel) (by decide +kernel) (by decide +kernel) (wof hw.2.1 (by decide +kernel)) (fun _ => rfl) qn_250 d_R_init_48 ?_
  refine sn_f B hnm (e := 16) (e' := 17) (a := 6) (b := 111) (k := 1) (c := 7) (kk := 21) (j := 10) (by decide) flC_7_10 (by decide +kernel) (by decide +kernel) (by decide +kernel) (by decide +kernel) lkC_1 (by decide +kernel) obC_7 hw.1 clC_7 inC_7 toC_7 nmC_7 rfl q_182 rfl rfl (ty := (.array .int)) (by decide +kernel) rfl rfl d_R_init_50 ?_
  refine vj_aload_n (gbx B (e := 17) (a := 6) (b := 111) (by decide)) (p9 := 0) d_R_init_53 rfl rfl ?_
  refine vj_bipush (gbx B (e := 17) (a := 6) (b := 111) (by decide)) (v := 40) d_R_init_54 rfl ?_
  refine sn_i B (e := 17) (e' := 18) (a := 6) (a' := 7) (b := 111) (b' := 151) (k := 22) (n := 40) (z := 0) (by decide) lkC_22 (by decide +kernel) (by decide +kernel) (by decide +kernel) (by decide +kernel) (wof hw.2.1 (by decide +kernel)) (fun _ => rfl) qn_250 d_R_init_56 ?_
  refine sn_f B hnm (e := 18) (e' := 19) (a := 7) (b := 151) (k := 1) (c := 7) (kk := 22) (j := 11) (by decide) flC_7_11 (by decide +kernel) (by decide +kernel) (by decide +kernel) (by decide +kernel) lkC_1 (by decide +kernel) obC_7 hw.1 clC_7 inC_7 toC_7 nmC_7 rfl q_186 rfl rfl (ty := (.array .int)) (by decide +kernel) rfl rfl d_R_init_58 ?_
  refine vj_aload_n (gbx B (e := 19) (a := 7) (b := 151) (by decide)) (p9 := 0) d_R_init_61 rfl rfl ?_
  refine vj_bipush (gbx B (e := 19) (a := 7) (b := 151) (by decide)) (v := 40) d_R_init_62 rfl ?_
  refine sn_i B (e := 19) (e' := 20) (a := 7) (a' := 8) (b := 151) (b' := 191) (k := 23) (n := 40) (z := 0) (by decide) lkC_23 (by decide +kernel) (by decide +kernel) (by decide +kernel) (by decide +kernel) (wof hw.2.1 (by decide +kernel)) (fun _ => rfl) qn_250 d_R_init_64 ?_
  refine sn_f B hnm (e := 20) (e' := 21) (a := 8) (b := 191) (k := 1) (c := 7) (kk := 23) (j := 12) (by decide) flC_7_12 (by decide +kernel) (by decide +kernel) (by decide +kernel) (by decide +kernel) lkC_1 (by decide +kernel) obC_7 hw.1 clC_7 inC_7 toC_7 nmC_7 rfl q_191 rfl rfl (ty := (.array .int)) (by decide +kernel) rfl rfl d_R_init_66 ?_
  refine vj_aload_n (gbx B (e := 21) (a := 8) (b := 191) (by decide)) (p9 := 0) d_R_init_69 rfl rfl ?_
  refine vj_bipush (gbx B (e := 21) (a := 8) (b := 191) (by decide)) (v := 40) d_R_init_70 rfl ?_
  refine sn_i B (e := 21) (e' := 22) (a := 8) (a' := 9) (b := 191) (b' := 231) (k := 24) (n := 40) (z := 0) (by decide) lkC_24 (by decide +kernel) (by decide +kernel) (by decide +kernel) (by decide +kernel) (wof hw.2.1 (by decide +kernel)) (fun _ => rfl) qn_250 d_R_init_72 ?_
  refine sn_f B hnm (e := 22) (e' := 23) (a := 9) (b := 231) (k := 1) (c := 7) (kk := 24) (j := 13) (by decide) flC_7_13 (by decide +kernel) (by decide +kernel) (by decide +kernel) (by decide +kernel) lkC_1 (by decide +kernel) obC_7 hw.1 clC_7 inC_7 toC_7 nmC_7 rfl q_194 rfl rfl (ty := (.array .int)) (by decide +kernel) rfl rfl d_R_init_74 ?_
  refine vj_aload_n (gbx B (e := 23) (a := 9) (b := 231) (by decide)) (p9 := 0) d_R_init_77 rfl rfl ?_
  refine vj_bipush (gbx B (e := 23) (a := 9) (b := 231) (by decide)) (v := 40) d_R_init_78 rfl ?_
  refine sn_i B (e := 23) (e' := 24) (a := 9) (a' := 10) (b := 231) (b' := 271) (k := 25) (n := 40) (z := 0) (by decide) lkC_25 (by decide +kernel) (by decide +kernel) (by decide +kernel) (by decide +kernel) (wof hw.2.1 (by decide +kernel)) (fun _ => rfl) qn_250 d_R_init_80 ?_
  refine sn_f B hnm (e := 24) (e' := 25) (a := 10) (b := 271) (k := 1) (c := 7) (kk := 25) (j := 14) (by decide) flC_7_14 (by decide +kernel) (by decide +kernel) (by decide +kernel) (by decide +kernel) lkC_1 (by decide +kernel) obC_7 hw.1 clC_7 inC_7 toC_7 nmC_7 rfl q_197 rfl rfl (ty := (.array .int)) (by decide +kernel) rfl rfl d_R_init_82 ?_
  refine vj_aload_n (gbx B (e := 25) (a := 10) (b := 271) (by decide)) (p9 := 0) d_R_init_85 rfl rfl ?_
  refine vj_bipush (gbx B (e := 25) (a := 10) (b := 271) (by decide)) (v := 40) d_R_init_86 rfl ?_
  refine sn_i B (e := 25) (e' := 26) (a := 10) (a' := 11) (b := 271) (b' := 311) (k := 26) (n := 40) (z := 0) (by decide) lkC_26 (by decide +kernel) (by decide +kernel) (by decide +kernel) (by decide +kernel) (wof hw.2.1 (by decide +kernel)) (fun _ => rfl) qn_250 d_R_init_88 ?_
  refine sn_f B hnm (e := 26) (e' := 27) (a := 11) (b := 311) (k := 1) (c := 7) (kk := 26) (j := 15) (by decide) flC_7_15 (by decide +kernel) (by decide +kernel) (by decide +kernel) (by decide +kernel) lkC_1 (by decide +kernel) obC_7 hw.1 clC_7 inC_7 toC_7 nmC_7 rfl q_202 rfl rfl (ty := (.array .int)) (by decide +kernel) rfl rfl d_R_init_90 ?_
  refine vj_aload_n (gbx B (e := 27) (a := 11) (b := 311) (by decide)) (p9 := 0) d_R_init_93 rfl rfl ?_
  refine vj_sipush (gbx B (e := 27) (a := 11) (b := 311) (by decide)) (v := 160) d_R_init_94 rfl ?_
  refine sn_i B (e := 27) (e' := 28) (a := 11) (a' := 12) (b := 311) (b' := 471) (k := 27) (n := 160) (z := 0) (by decide) lkC_27 (by decide +kernel) (by decide +kernel) (by decide +kernel) (by decide +kernel) (wof hw.2.1 (by decide +kernel)) (fun _ => rfl) qn_250 d_R_init_97 ?_
  refine sn_f B hnm (e := 28) (e' := 29) (a := 12) (b := 471) (k := 1) (c := 7) (kk := 27) (j := 17) (by decide) flC_7_17 (by decide +kernel) (by decide +kernel) (by decide +kernel) (by decide +kernel) lkC_1 (by decide +kernel) obC_7 hw.1 clC_7 inC_7 toC_7 nmC_7 rfl q_206 rfl rfl (ty := (.array .int)) (by decide +kernel) rfl rfl d_R_init_99 ?_
  refine vj_aload_n (gbx B (e := 29) (a := 12) (b := 471) (by decide)) (p9 := 0) d_R_init_102 rfl rfl ?_
  refine vj_sipush (gbx B (e := 29) (a := 12) (b := 471) (by decide)) (v := 160) d_R_init_103 rfl ?_
  refine sn_i B (e := 29) (e' := 30) (a := 12) (a' := 13) (b := 471) (b' := 631) (k := 28) (n := 160) (z := 0) (by decide) lkC_28 (by decide +kernel) (by decide +kernel) (by decide +kernel) (by decide +kernel) (wof hw.2.1 (by decide +kernel)) (fun _ => rfl) qn_250 d_R_init_106 ?_
  refine sn_f B hnm (e := 30) (e' := 31) (a := 13) (b := 631) (k := 1) (c := 7) (kk := 28) (j := 18) (by decide) flC_7_18 (by decide +kernel) (by decide +kernel) (by decide +kernel) (by decide +kernel) lkC_1 (by decide +kernel) obC_7 hw.1 clC_7 inC_7 toC_7 nmC_7 rfl q_207 rfl rfl (ty := (.array .int)) (by decide +kernel) rfl rfl d_R_init_108 ?_
  refine vj_aload_n (gbx B (e := 31) (a := 13) (b := 631) (by decide)) (p9 := 0) d_R_init_111 rfl rfl ?_
  refine vj_sipush (gbx B (e := 31) (a := 13) (b := 631) (by decide)) (v := 160) d_R_init_112 rfl ?_
  refine sn_i B (e := 31) (e' := 32) (a := 13) (a' := 14) (b := 631) (b' := 791) (k := 29) (n := 160) (z := 0) (by decide) lkC_29 (by decide +kernel) (by decide +kernel) (by decide +kernel) (by decide +kernel) (wof hw.2.1 (by decide +kernel)) (fun _ => rfl) qn_250 d_R_init_115 ?_
  refine sn_f B hnm (e := 32) (e' := 33) (a := 14) (b := 791) (k := 1) (c := 7) (kk := 29) (j := 19) (by decide) flC_7_19 (by decide +kernel) (by decide +kernel) (by decide +kernel) (by decide +kernel) lkC_1 (by decide +kernel) obC_7 hw.1 clC_7 inC_7 toC_7 nmC_7 rfl q_208 rfl rfl (ty := (.array .int)) (by decide +kernel) rfl rfl d_R_init_117 ?_
  exact sn_ret B G9 (by decide) d_R_init_120
set_option maxHeartbeats 8000000 in
set_option maxRecDepth 100000 in
theorem cn_C {w : Wd} (hw : WCC w) : Ctn (SgC 35) (SgC 51) w y_C_init b_C_init 1 none 1 8 2520 20 0 [.ref (wa w 2)] Z0 0 (Z0) := by
  refine Ctn.of (ij_st hw.1) (KstS KstLC9 _) (fun k h => pr_sm (by decide) h) (hnew_st hw.2.1 (by decide) (by decide +kernel)) (by decide +kernel) (Nat.le_of_ble_eq_true rfl) (fun X G9 => ?_)
  have B : GB (SLy LC9 evC efC cnC 0) w X "WhoRules$Charters" b_C_init 1 1 20 35 51 8 2520 := gb_of hw.1 KstLC9 G9
  have hnm : (xM X).name = "<init>" := G9.2.2.2.2.2.2.2.2
  show VJ (SgC 35) w (xInc X 0 0) 1 0 0 (Z0) Z0 [(0, .ref (wa w 2))] [] 0
  refine vj_aload_n (gbx B (e := 35) (a := 0) (b := 0) (by decide)) (p9 := 0) d_C_init_0 rfl rfl ?_
  refine vj_objInit (gbx B (e := 35) (a := 0) (b := 0) (by decide)) q_256 qo_inst qo_code (by decide) (by decide) (by decide) d_C_init_1 ?_
  refine vj_aload_n (gbx B (e := 35) (a := 0) (b := 0) (by decide)) (p9 := 0) d_C_init_4 rfl rfl ?_
  refine vj_bipush (gbx B (e := 35) (a := 0) (b := 0) (by decide)) (v := 100) d_C_init_5 rfl ?_
  refine sn_b B (e := 35) (e' := 36) (a := 0) (a' := 1) (b := 0) (b' := 100) (k := 30) (n := 100) (z := 0) (by decide) lkC_30 (by decide +kernel) (by decide +kernel) (by decide +kernel) (by decide +kernel) (wof hw.2.1 (by decide +kernel)) (fun _ => rfl) qn_296 d_C_init_7 ?_
  refine sn_f B hnm (e := 36) (e' := 37) (a := 1) (b := 100) (k := 2) (c := 8) (kk := 30) (j := 2) (by decide) flC_8_2 (by decide +kernel) (by decide +kernel) (by decide +kernel) (by decide +kernel) lkC_2 (by decide +kernel) obC_8 hw.1 clC_8 inC_8 toC_8 nmC_8 rfl q_261 rfl rfl (ty := (.array .byte)) (by decide +kernel) rfl rfl d_C_init_9 ?_
  refine vj_aload_n (gbx B (e := 37) (a := 1) (b := 100) (by decide)) (p9 := 0) d_C_init_12 rfl rfl ?_
  refine vj_bipush (gbx B (e := 37) (a := 1) (b := 100) (by decide)) (v := 20) d_C_init_13 rfl ?_
  refine sn_i B (e := 37) (e' := 38) (a := 1) (a' := 2) (b := 100) (b' := 120) (k := 31) (n := 20) (z := 0) (by decide) lkC_31 (by decide +kernel) (by decide +kernel) (by decide +kernel) (by decide +kernel) (wof hw.2.1 (by decide +kernel)) (fun _ => rfl) qn_250 d_C_init_15 ?_
  refine sn_f B hnm (e := 38) (e' := 39) (a := 2) (b := 120) (k := 2) (c := 8) (kk := 31) (j := 4) (by decide) flC_8_4 (by decide +kernel) (by decide +kernel) (by decide +kernel) (by decide +kernel) lkC_2 (by decide +kernel) obC_8 hw.1 clC_8 inC_8 toC_8 nmC_8 rfl q_263 rfl rfl (ty := (.array .int)) (by decide +kernel) rfl rfl d_C_init_17 ?_
  refine vj_aload_n (gbx B (e := 39) (a := 2) (b := 120) (by decide)) (p9 := 0) d_C_init_20 rfl rfl ?_
  refine vj_bipush (gbx B (e := 39) (a := 2) (b := 120) (by decide)) (v := 20) d_C_init_21 rfl ?_
  refine sn_i B (e := 39) (e' := 40) (a := 2) (a' := 3) (b := 120) (b' := 140) (k := 32) (n := 20) (z := 0) (by decide) lkC_32 (by decide +kernel) (by decide +kernel) (by decide +kernel) (by decide +kernel) (wof hw.2.1 (by decide +kernel)) (fun _ => rfl) qn_250 d_C_init_23 ?_
  refine sn_f B hnm (e := 40) (e' := 41) (a := 3) (b := 140) (k := 2) (c := 8) (kk := 32) (j := 5) (by decide) flC_8_5 (by decide +kernel) (by decide +kernel) (by decide +kernel) (by decide +kernel) lkC_2 (by decide +kernel) obC_8 hw.1 clC_8 inC_8 toC_8 nmC_8 rfl q_264 rfl rfl (ty := (.array .int)) (by decide +kernel) rfl rfl d_C_init_25 ?_
  refine vj_aload_n (gbx B (e := 41) (a := 3) (b := 140) (by decide)) (p9 := 0) d_C_init_28 rfl rfl ?_
  refine vj_bipush (gbx B (e := 41) (a := 3) (b := 140) (by decide)) (v := 20) d_C_init_29 rfl ?_
  refine sn_i B (e := 41) (e' := 42) (a := 3) (a' := 4) (b := 140) (b' := 160) (k := 33) (n := 20) (z := 0) (by decide) lkC_33 (by decide +kernel) (by decide +kernel) (by decide +kernel) (by decide +kernel) (wof hw.2.1 (by decide +kernel)) (fun _ => rfl) qn_250 d_C_init_31 ?_
  refine sn_f B hnm (e := 42) (e' := 43) (a := 4) (b := 160) (k := 2) (c := 8) (kk := 33) (j := 6) (by decide) flC_8_6 (by decide +kernel) (by decide +kernel) (by decide +kernel) (by decide +kernel) lkC_2 (by decide +kernel) obC_8 hw.1 clC_8 inC_8 toC_8 nmC_8 rfl q_265 rfl rfl (ty := (.array .int)) (by decide +kernel) rfl rfl d_C_init_33 ?_
  refine vj_aload_n (gbx B (e := 43) (a := 4) (b := 160) (by decide)) (p9 := 0) d_C_init_36 rfl rfl ?_
  refine vj_bipush (gbx B (e := 43) (a := 4) (b := 160) (by decide)) (v := 120) d_C_init_37 rfl ?_
  refine sn_i B (e := 43) (e' := 44) (a := 4) (a' := 5) (b := 160) (b' := 280) (k := 34) (n := 120) (z := 0) (by decide) lkC_34 (by decide +kernel) (by decide +kernel) (by decide +kernel) (by decide +kernel) (wof hw.2.1 (by decide +kernel)) (fun _ => rfl) qn_250 d_C_init_39 ?_
  refine sn_f B hnm (e := 44) (e' := 45) (a := 5) (b := 280) (k := 2) (c := 8) (kk := 34) (j := 7) (by decide) flC_8_7 (by decide +kernel) (by decide +kernel) (by decide +kernel) (by decide +kernel) lkC_2 (by decide +kernel) obC_8 hw.1 clC_8 inC_8 toC_8 nmC_8 rfl q_266 rfl rfl (ty := (.array .int)) (by decide +kernel) rfl rfl d_C_init_41 ?_
  refine vj_aload_n (gbx B (e := 45) (a := 5) (b := 280) (by decide)) (p9 := 0) d_C_init_44 rfl rfl ?_
  refine vj_bipush (gbx B (e := 45) (a := 5) (b := 280) (by decide)) (v := 120) d_C_init_45 rfl ?_
  refine sn_i B (e := 45) (e' := 46) (a := 5) (a' := 6) (b := 280) (b' := 400) (k := 35) (n := 120) (z := 0) (by decide) lkC_35 (by decide +kernel) (by decide +kernel) (by decide +kernel) (by decide +kernel) (wof hw.2.1 (by decide +kernel)) (fun _ => rfl) qn_250 d_C_init_47 ?_
  refine sn_f B hnm (e := 46) (e' := 47) (a := 6) (b := 400) (k := 2) (c := 8) (kk := 35) (j := 8) (by decide) flC_8_8 (by decide +kernel) (by decide +kernel) (by decide +kernel) (by decide +kernel) lkC_2 (by decide +kernel) obC_8 hw.1 clC_8 inC_8 toC_8 nmC_8 rfl q_267 rfl rfl (ty := (.array .int)) (by decide +kernel) rfl rfl d_C_init_49 ?_
  refine vj_aload_n (gbx B (e := 47) (a := 6) (b := 400) (by decide)) (p9 := 0) d_C_init_52 rfl rfl ?_
  refine vj_bipush (gbx B (e := 47) (a := 6) (b := 400) (by decide)) (v := 120) d_C_init_53 rfl ?_
  refine sn_i B (e := 47) (e' := 48) (a := 6) (a' := 7) (b := 400) (b' := 520) (k := 36) (n := 120) (z := 0) (by decide) lkC_36 (by decide +kernel) (by decide +kernel) (by decide +kernel) (by decide +kernel) (wof hw.2.1 (by decide +kernel)) (fun _ => rfl) qn_250 d_C_init_55 ?_
  refine sn_f B hnm (e := 48) (e' := 49) (a := 7) (b := 520) (k := 2) (c := 8) (kk := 36) (j := 9) (by decide) flC_8_9 (by decide +kernel) (by decide +kernel) (by decide +kernel) (by decide +kernel) lkC_2 (by decide +kernel) obC_8 hw.1 clC_8 inC_8 toC_8 nmC_8 rfl q_268 rfl rfl (ty := (.array .int)) (by decide +kernel) rfl rfl d_C_init_57 ?_
  refine vj_aload_n (gbx B (e := 49) (a := 7) (b := 520) (by decide)) (p9 := 0) d_C_init_60 rfl rfl ?_
  refine vj_sipush (gbx B (e := 49) (a := 7) (b := 520) (by decide)) (v := 2000) d_C_init_61 rfl ?_
  refine sn_i B (e := 49) (e' := 50) (a := 7) (a' := 8) (b := 520) (b' := 2520) (k := 37) (n := 2000) (z := 0) (by decide) lkC_37 (by decide +kernel) (by decide +kernel) (by decide +kernel) (by decide +kernel) (wof hw.2.1 (by decide +kernel)) (fun _ => rfl) qn_250 d_C_init_64 ?_
  refine sn_f B hnm (e := 50) (e' := 51) (a := 8) (b := 2520) (k := 2) (c := 8) (kk := 37) (j := 10) (by decide) flC_8_10 (by decide +kernel) (by decide +kernel) (by decide +kernel) (by decide +kernel) lkC_2 (by decide +kernel) obC_8 hw.1 clC_8 inC_8 toC_8 nmC_8 rfl q_269 rfl rfl (ty := (.array .int)) (by decide +kernel) rfl rfl d_C_init_66 ?_
  exact sn_ret B G9 (by decide) d_C_init_69
set_option maxHeartbeats 8000000 in
set_option maxRecDepth 100000 in
theorem cn_U {w : Wd} (hw : WCC w) : Ctn (SgC 53) (SgC 75) w y_U_init b_U_init 3 none 1 58 780 20 0 [.ref (wa w 3), .ref (wa w 1), .ref (wa w 2)] Z0 0 (Z0) := by
  refine Ctn.of (ij_st hw.1) (KstS KstLC9 _) (fun k h => pr_sm (by decide) h) (hnew_st hw.2.1 (by decide) (by decide +kernel)) (by decide +kernel) (Nat.le_of_ble_eq_true rfl) (fun X G9 => ?_)
  have B : GB (SLy LC9 evC efC cnC 0) w X "WhoRules$Rule" b_U_init 3 1 20 53 75 58 780 := gb_of hw.1 KstLC9 G9
  have hnm : (xM X).name = "<init>" := G9.2.2.2.2.2.2.2.2
  show VJ (SgC 53) w (xInc X 0 0) 3 0 0 (Z0) Z0 [(0, .ref (wa w 3)), (1, .ref (wa w 1)), (2, .ref (wa w 2))] [] 0
  refine vj_aload_n (gbx B (e := 53) (a := 0) (b := 0) (by decide)) (p9 := 0) d_U_init_0 rfl rfl ?_
  refine vj_objInit (gbx B (e := 53) (a := 0) (b := 0) (by decide)) q_302 qo_inst qo_code (by decide) (by decide) (by decide) d_U_init_1 ?_
  refine vj_aload_n (gbx B (e := 53) (a := 0) (b := 0) (by decide)) (p9 := 0) d_U_init_4 rfl rfl ?_
  refine vj_bipush (gbx B (e := 53) (a := 0) (b := 0) (by decide)) (v := 16) d_U_init_5 rfl ?_
  refine vj_iconst (gbx B (e := 53) (a := 0) (b := 0) (by decide)) (v := 5) d_U_init_7 rfl ?_
  refine sn_mi B (e := 53) (e' := 54) (a := 0) (a' := 17) (b := 0) (b' := 96) (k := 38) (n := 16) (z := 110) (K := 5) (by decide) lkC_38 lkC_q110 (by decide +kernel) (by decide +kernel) (by decide +kernel) (by decide +kernel) (by decide +kernel) (wof hw.2.1 (by decide +kernel)) (fun j hj => by rw [hw.2.1, (show ∀ j, j < 16 → evO oaC (110 + j) = evO cnC 53 + 1 + j by decide +kernel) j hj]) (fun _ _ => rfl) (gbx B (e := 53) (a := 0) (b := 0) (by decide)).2.2.2.2.2.2.1.2.2.1 q_303 qn_250 d_U_init_8 ?_
  refine sn_f B hnm (e := 54) (e' := 55) (a := 17) (b := 96) (k := 3) (c := 9) (kk := 38) (j := 3) (by decide) flC_9_3 (by decide +kernel) (by decide +kernel) (by decide +kernel) (by decide +kernel) lkC_3 (by decide +kernel) obC_9 hw.1 clC_9 inC_9 toC_9 nmC_9 rfl q_308 rfl rfl (ty := (.array (.array .int))) (by decide +kernel) rfl rfl d_U_init_12 ?_
  refine vj_aload_n (gbx B (e := 55) (a := 17) (b := 96) (by decide)) (p9 := 0) d_U_init_15 rfl rfl ?_
  refine vj_bipush (gbx B (e := 55) (a := 17) (b := 96) (by decide)) (v := 40) d_U_init_16 rfl ?_
  refine sn_i B (e := 55) (e' := 56) (a := 17) (a' := 18) (b := 96) (b' := 136) (k := 39) (n := 40) (z := 0) (by decide) lkC_39 (by decide +kernel) (by decide +kernel) (by decide +kernel) (by decide +kernel) (wof hw.2.1 (by decide +kernel)) (fun _ => rfl) qn_250 d_U_init_18 ?_
  refine sn_f B hnm (e := 56) (e' := 57) (a := 18) (b := 136) (k := 3) (c := 9) (kk := 39) (j := 4) (by decide) flC_9_4 (by decide +kernel) (by decide +kernel) (by decide +kernel) (by decide +kernel) lkC_3 (by decide +kernel) obC_9 hw.1 clC_9 inC_9 toC_9 nmC_9 rfl q_310 rfl rfl (ty := (.array .int)) (by decide +kernel) rfl rfl d_U_init_20 ?_
  refine vj_aload_n (gbx B (e := 57) (a := 18) (b := 136) (by decide)) (p9 := 0) d_U_init_23 rfl rfl ?_
  refine vj_bipush (gbx B (e := 57) (a := 18) (b := 136) (by decide)) (v := 40) d_U_init_24 rfl ?_
  refine sn_i B (e := 57) (e' := 58) (a := 18) (a' := 19) (b := 136) (b' := 176) (k := 40) (n := 40) (z := 0) (by decide) lkC_40 (by decide +kernel) (by decide +kernel) (by decide +kernel) (by decide +kernel) (wof hw.2.1 (by decide +kernel)) (fun _ => rfl) qn_250 d_U_init_26 ?_
  refine sn_f B hnm (e := 58) (e' := 59) (a := 19) (b := 176) (k := 3) (c := 9) (kk := 40) (j := 5) (by decide) flC_9_5 (by decide +kernel) (by decide +kernel) (by decide +kernel) (by decide +kernel) lkC_3 (by decide +kernel) obC_9 hw.1 clC_9 inC_9 toC_9 nmC_9 rfl q_311 rfl rfl (ty := (.array .int)) (by decide +kernel) rfl rfl d_U_init_28 ?_
  refine vj_aload_n (gbx B (e := 59) (a := 19) (b := 176) (by decide)) (p9 := 0) d_U_init_31 rfl rfl ?_
  refine vj_iconst (gbx B (e := 59) (a := 19) (b := 176) (by decide)) (v := 5) d_U_init_32 rfl ?_
  refine sn_i B (e := 59) (e' := 60) (a := 19) (a' := 20) (b := 176) (b' := 181) (k := 41) (n := 5) (z := 0) (by decide) lkC_41 (by decide +kernel) (by decide +kernel) (by decide +kernel) (by decide +kernel) (wof hw.2.1 (by decide +kernel)) (fun _ => rfl) qn_250 d_U_init_33 ?_
  refine sn_f B hnm (e := 60) (e' := 61) (a := 20) (b := 181) (k := 3) (c := 9) (kk := 41) (j := 6) (by decide) flC_9_6 (by decide +kernel) (by decide +kernel) (by decide +kernel) (by decide +kernel) lkC_3 (by decide +kernel) obC_9 hw.1 clC_9 inC_9 toC_9 nmC_9 rfl q_312 rfl rfl (ty := (.array .int)) (by decide +kernel) rfl rfl d_U_init_35 ?_
  refine vj_aload_n (gbx B (e := 61) (a := 20) (b := 181) (by decide)) (p9 := 0) d_U_init_38 rfl rfl ?_
  refine vj_bipush (gbx B (e := 61) (a := 20) (b := 181) (by decide)) (v := 16) d_U_init_39 rfl ?_
  refine vj_bipush (gbx B (e := 61) (a := 20) (b := 181) (by decide)) (v := 16) d_U_init_41 rfl ?_
  refine sn_mi B (e := 61) (e' := 62) (a := 20) (a' := 37) (b := 181) (b' := 453) (k := 42) (n := 16) (z := 130) (K := 16) (by decide) lkC_42 lkC_q130 (by decide +kernel) (by decide +kernel) (by decide +kernel) (by decide +kernel) (by decide +kernel) (wof hw.2.1 (by decide +kernel)) (fun j hj => by rw [hw.2.1, (show ∀ j, j < 16 → evO oaC (130 + j) = evO cnC 61 + 1 + j by decide +kernel) j hj]) (fun _ _ => rfl) (gbx B (e := 61) (a := 20) (b := 181) (by decide)).2.2.2.2.2.2.1.2.2.1 q_303 qn_250 d_U_init_43 ?_
  refine sn_f B hnm (e := 62) (e' := 63) (a := 37) (b := 453) (k := 3) (c := 9) (kk := 42) (j := 7) (by decide) flC_9_7 (by decide +kernel) (by decide +kernel) (by decide +kernel) (by decide +kernel) lkC_3 (by decide +kernel) obC_9 hw.1 clC_9 inC_9 toC_9 nmC_9 rfl q_313 rfl rfl (ty := (.array (.array .int))) (by decide +kernel) rfl rfl d_U_init_47 ?_
  refine vj_aload_n (gbx B (e := 63) (a := 37) (b := 453) (by decide)) (p9 := 0) d_U_init_50 rfl rfl ?_
  refine vj_bipush (gbx B (e := 63) (a := 37) (b := 453) (by decide)) (v := 16) d_U_init_51 rfl ?_
  refine sn_i B (e := 63) (e' := 64) (a := 37) (a' := 38) (b := 453) (b' := 469) (k := 43) (n := 16) (z := 0) (by decide) lkC_43 (by decide +kernel) (by decide +kernel) (by decide +kernel) (by decide +kernel) (wof hw.2.1 (by decide +kernel)) (fun _ => rfl) qn_250 d_U_init_53 ?_
  refine sn_f B hnm (e := 64) (e' := 65) (a := 38) (b := 469) (k := 3) (c := 9) (kk := 43) (j := 8) (by decide) flC_9_8 (by decide +kernel) (by decide +kernel) (by decide +kernel) (by decide +kernel) lkC_3 (by decide +kernel) obC_9 hw.1 clC_9 inC_9 toC_9 nmC_9 rfl q_316 rfl rfl (ty := (.array .int)) (by decide +kernel) rfl rfl d_U_init_55 ?_
  refine vj_aload_n (gbx B (e := 65) (a := 38) (b := 469) (by decide)) (p9 := 0) d_U_init_58 rfl rfl ?_
  refine vj_bipush (gbx B (e := 65) (a := 38) (b := 469) (by decide)) (v := 16) d_U_init_59 rfl ?_
  refine sn_i B (e := 65) (e' := 66) (a := 38) (a' := 39) (b := 469) (b' := 485) (k := 44) (n := 16) (z := 0) (by decide) lkC_44 (by decide +kernel) (by decide +kernel) (by decide +kernel) (by decide +kernel) (wof hw.2.1 (by decide +kernel)) (fun _ => rfl) qn_250 d_U_init_61 ?_
  refine sn_f B hnm (e := 66) (e' := 67) (a := 39) (b := 485) (k := 3) (c := 9) (kk := 44) (j := 9) (by decide) flC_9_9 (by decide +kernel) (by decide +kernel) (by decide +kernel) (by decide +kernel) lkC_3 (by decide +kernel) obC_9 hw.1 clC_9 inC_9 toC_9 nmC_9 rfl q_318 rfl rfl (ty := (.array .int)) (by decide +kernel) rfl rfl d_U_init_63 ?_
  refine vj_aload_n (gbx B (e := 67) (a := 39) (b := 485) (by decide)) (p9 := 0) d_U_init_66 rfl rfl ?_
  refine vj_bipush (gbx B (e := 67) (a := 39) (b := 485) (by decide)) (v := 16) d_U_init_67 rfl ?_
  refine sn_i B (e := 67) (e' := 68) (a := 39) (a' := 40) (b := 485) (b' := 501) (k := 45) (n := 16) (z := 0) (by decide) lkC_45 (by decide +kernel) (by decide +kernel) (by decide +kernel) (by decide +kernel) (wof hw.2.1 (by decide +kernel)) (fun _ => rfl) qn_250 d_U_init_69 ?_
  refine sn_f B hnm (e := 68) (e' := 69) (a := 40) (b := 501) (k := 3) (c := 9) (kk := 45) (j := 10) (by decide) flC_9_10 (by decide +kernel) (by decide +kernel) (by decide +kernel) (by decide +kernel) lkC_3 (by decide +kernel) obC_9 hw.1 clC_9 inC_9 toC_9 nmC_9 rfl q_320 rfl rfl (ty := (.array .int)) (by decide +kernel) rfl rfl d_U_init_71 ?_
  refine vj_aload_n (gbx B (e := 69) (a := 40) (b := 501) (by decide)) (p9 := 0) d_U_init_74 rfl rfl ?_
  refine vj_bipush (gbx B (e := 69) (a := 40) (b := 501) (by decide)) (v := 16) d_U_init_75 rfl ?_
  refine vj_bipush (gbx B (e := 69) (a := 40) (b := 501) (by decide)) (v := 16) d_U_init_77 rfl ?_
  refine sn_mi B (e := 69) (e' := 70) (a := 40) (a' := 57) (b := 501) (b' := 773) (k := 46) (n := 16) (z := 150) (K := 16) (by decide) lkC_46 lkC_q150 (by decide +kernel) (by decide +kernel) (by decide +kernel) (by decide +kernel) (by decide +kernel) (wof hw.2.1 (by decide +kernel)) (fun j hj => by rw [hw.2.1, (show ∀ j, j < 16 → evO oaC (150 + j) = evO cnC 69 + 1 + j by decide +kernel) j hj]) (fun _ _ => rfl) (gbx B (e := 69) (a := 40) (b := 501) (by decide)).2.2.2.2.2.2.1.2.2.1 q_303 qn_250 d_U_init_79 ?_
  refine sn_f B hnm (e := 70) (e' := 71) (a := 57) (b := 773) (k := 3) (c := 9) (kk := 46) (j := 11) (by decide) flC_9_11 (by decide +kernel) (by decide +kernel) (by decide +kernel) (by decide +kernel) lkC_3 (by decide +kernel) obC_9 hw.1 clC_9 inC_9 toC_9 nmC_9 rfl q_323 rfl rfl (ty := (.array (.array .int))) (by decide +kernel) rfl rfl d_U_init_83 ?_
  refine vj_aload_n (gbx B (e := 71) (a := 57) (b := 773) (by decide)) (p9 := 0) d_U_init_86 rfl rfl ?_
  refine vj_bipush (gbx B (e := 71) (a := 57) (b := 773) (by decide)) (v := 7) d_U_init_87 rfl ?_
  refine sn_i B (e := 71) (e' := 72) (a := 57) (a' := 58) (b := 773) (b' := 780) (k := 47) (n := 7) (z := 0) (by decide) lkC_47 (by decide +kernel) (by decide +kernel) (by decide +kernel) (by decide +kernel) (wof hw.2.1 (by decide +kernel)) (fun _ => rfl) qn_250 d_U_init_89 ?_
  refine sn_f B hnm (e := 72) (e' := 73) (a := 58) (b := 780) (k := 3) (c := 9) (kk := 47) (j := 12) (by decide) flC_9_12 (by decide +kernel) (by decide +kernel) (by decide +kernel) (by decide +kernel) lkC_3 (by decide +kernel) obC_9 hw.1 clC_9 inC_9 toC_9 nmC_9 rfl q_325 rfl rfl (ty := (.array .int)) (by decide +kernel) rfl rfl d_U_init_91 ?_
  refine vj_aload_n (gbx B (e := 73) (a := 58) (b := 780) (by decide)) (p9 := 0) d_U_init_94 rfl rfl ?_
  refine vj_aload_n (gbx B (e := 73) (a := 58) (b := 780) (by decide)) (p9 := 1) d_U_init_95 rfl rfl ?_
  refine sn_f B hnm (e := 73) (e' := 74) (a := 58) (b := 780) (k := 3) (c := 9) (kk := 1) (j := 0) (by decide) flC_9_0 (by decide +kernel) (by decide +kernel) (by decide +kernel) (by decide +kernel) lkC_3 (by decide +kernel) obC_9 hw.1 clC_9 inC_9 toC_9 nmC_9 rfl q_305 rfl rfl (ty := (.object "WhoRules$Register")) (by decide +kernel) rfl rfl d_U_init_96 ?_
  refine vj_aload_n (gbx B (e := 74) (a := 58) (b := 780) (by decide)) (p9 := 0) d_U_init_99 rfl rfl ?_
  refine vj_aload_n (gbx B (e := 74) (a := 58) (b := 780) (by decide)) (p9 := 2) d_U_init_100 rfl rfl ?_
  refine sn_f B hnm (e := 74) (e' := 75) (a := 58) (b := 780) (k := 3) (c := 9) (kk := 2) (j := 1) (by decide) flC_9_1 (by decide +kernel) (by decide +kernel) (by decide +kernel) (by decide +kernel) lkC_3 (by decide +kernel) obC_9 hw.1 clC_9 inC_9 toC_9 nmC_9 rfl q_306 rfl rfl (ty := (.object "WhoRules$Charters")) (by decide +kernel) rfl rfl d_U_init_101 ?_
  exact sn_ret B G9 (by decide) d_U_init_104
set_option maxHeartbeats 8000000 in
set_option maxRecDepth 100000 in
theorem cn_S {w : Wd} (hw : WCC w) : Ctn (SgC 77) (SgC 95) w y_S_init b_S_init 3 none 1 13 108 20 0 [.ref (wa w 4), .ref (wa w 1), .ref (wa w 3)] Z0 0 (Z0) := by
  refine Ctn.of (ij_st hw.1) (KstS KstLC9 _) (fun k h => pr_sm (by decide) h) (hnew_st hw.2.1 (by decide) (by decide +kernel)) (by decide +kernel) (Nat.le_of_ble_eq_true rfl) (fun X G9 => ?_)
  have B : GB (SLy LC9 evC efC cnC 0) w X "WhoRules$Search" b_S_init 3 1 20 77 95 13 108 := gb_of hw.1 KstLC9 G9
  have hnm : (xM X).name = "<init>" := G9.2.2.2.2.2.2.2.2
  show VJ (SgC 77) w (xInc X 0 0) 3 0 0 (Z0) Z0 [(0, .ref (wa w 4)), (1, .ref (wa w 1)), (2, .ref (wa w 3))] [] 0
  refine vj_aload_n (gbx B (e := 77) (a := 0) (b := 0) (by decide)) (p9 := 0) d_S_init_0 rfl rfl ?_
  refine vj_objInit (gbx B (e := 77) (a := 0) (b := 0) (by decide)) q_363 qo_inst qo_code (by decide) (by decide) (by decide) d_S_init_1 ?_
  refine vj_aload_n (gbx B (e := 77) (a := 0) (b := 0) (by decide)) (p9 := 0) d_S_init_4 rfl rfl ?_
  refine vj_bipush (gbx B (e := 77) (a := 0) (b := 0) (by decide)) (v := 8) d_S_init_5 rfl ?_
  refine sn_i B (e := 77) (e' := 78) (a := 0) (a' := 1) (b := 0) (b' := 8) (k := 48) (n := 8) (z := 0) (by decide) lkC_48 (by decide +kernel) (by decide +kernel) (by decide +kernel) (by decide +kernel) (wof hw.2.1 (by decide +kernel)) (fun _ => rfl) qn_250 d_S_init_7 ?_
  refine sn_f B hnm (e := 78) (e' := 79) (a := 1) (b := 8) (k := 4) (c := 10) (kk := 48) (j := 2) (by decide) flC_10_2 (by decide +kernel) (by decide +kernel) (by decide +kernel) (by decide +kernel) lkC_4 (by decide +kernel) obC_10 hw.1 clC_10 inC_10 toC_10 nmC_10 rfl q_367 rfl rfl (ty := (.array .int)) (by decide +kernel) rfl rfl d_S_init_9 ?_
  refine vj_aload_n (gbx B (e := 79) (a := 1) (b := 8) (by decide)) (p9 := 0) d_S_init_12 rfl rfl ?_
  refine vj_iconst (gbx B (e := 79) (a := 1) (b := 8) (by decide)) (v := 5) d_S_init_13 rfl ?_
  refine vj_iconst (gbx B (e := 79) (a := 1) (b := 8) (by decide)) (v := 4) d_S_init_14 rfl ?_
  refine sn_mi B (e := 79) (e' := 80) (a := 1) (a' := 7) (b := 8) (b' := 33) (k := 49) (n := 5) (z := 170) (K := 4) (by decide) lkC_49 lkC_q170 (by decide +kernel) (by decide +kernel) (by decide +kernel) (by decide +kernel) (by decide +kernel) (wof hw.2.1 (by decide +kernel)) (fun j hj => by rw [hw.2.1, (show ∀ j, j < 5 → evO oaC (170 + j) = evO cnC 79 + 1 + j by decide +kernel) j hj]) (fun _ _ => rfl) (gbx B (e := 79) (a := 1) (b := 8) (by decide)).2.2.2.2.2.2.1.2.2.1 q_364 qn_250 d_S_init_15 ?_
  refine sn_f B hnm (e := 80) (e' := 81) (a := 7) (b := 33) (k := 4) (c := 10) (kk := 49) (j := 4) (by decide) flC_10_4 (by decide +kernel) (by decide +kernel) (by decide +kernel) (by decide +kernel) lkC_4 (by decide +kernel) obC_10 hw.1 clC_10 inC_10 toC_10 nmC_10 rfl q_369 rfl rfl (ty := (.array (.array .int))) (by decide +kernel) rfl rfl d_S_init_19 ?_
  refine vj_aload_n (gbx B (e := 81) (a := 7) (b := 33) (by decide)) (p9 := 0) d_S_init_22 rfl rfl ?_
  refine vj_iconst (gbx B (e := 81) (a := 7) (b := 33) (by decide)) (v := 5) d_S_init_23 rfl ?_
  refine sn_i B (e := 81) (e' := 82) (a := 7) (a' := 8) (b := 33) (b' := 38) (k := 50) (n := 5) (z := 0) (by decide) lkC_50 (by decide +kernel) (by decide +kernel) (by decide +kernel) (by decide +kernel) (wof hw.2.1 (by decide +kernel)) (fun _ => rfl) qn_250 d_S_init_24 ?_
  refine sn_f B hnm (e := 82) (e' := 83) (a := 8) (b := 38) (k := 4) (c := 10) (kk := 50) (j := 5) (by decide) flC_10_5 (by decide +kernel) (by decide +kernel) (by decide +kernel) (by decide +kernel) lkC_4 (by decide +kernel) obC_10 hw.1 clC_10 inC_10 toC_10 nmC_10 rfl q_370 rfl rfl (ty := (.array .int)) (by decide +kernel) rfl rfl d_S_init_26 ?_
  refine vj_aload_n (gbx B (e := 83) (a := 8) (b := 38) (by decide)) (p9 := 0) d_S_init_29 rfl rfl ?_
  refine vj_iconst (gbx B (e := 83) (a := 8) (b := 38) (by decide)) (v := 5) d_S_init_30 rfl ?_
  refine sn_i B (e := 83) (e' := 84) (a := 8) (a' := 9) (b := 38) (b' := 43) (k := 51) (n := 5) (z := 0) (by decide) lkC_51 (by decide +kernel) (by decide +kernel) (by decide +kernel) (by decide +kernel) (wof hw.2.1 (by decide +kernel)) (fun _ => rfl) qn_250 d_S_init_31 ?_
  refine sn_f B hnm (e := 84) (e' := 85) (a := 9) (b := 43) (k := 4) (c := 10) (kk := 51) (j := 6) (by decide) flC_10_6 (by decide +kernel) (by decide +kernel) (by decide +kernel) (by decide +kernel) lkC_4 (by decide +kernel) obC_10 hw.1 clC_10 inC_10 toC_10 nmC_10 rfl q_371 rfl rfl (ty := (.array .int)) (by decide +kernel) rfl rfl d_S_init_33 ?_
  refine vj_aload_n (gbx B (e := 85) (a := 9) (b := 43) (by decide)) (p9 := 0) d_S_init_36 rfl rfl ?_
  refine vj_bipush (gbx B (e := 85) (a := 9) (b := 43) (by decide)) (v := 16) d_S_init_37 rfl ?_
  refine sn_i B (e := 85) (e' := 86) (a := 9) (a' := 10) (b := 43) (b' := 59) (k := 52) (n := 16) (z := 0) (by decide) lkC_52 (by decide +kernel) (by decide +kernel) (by decide +kernel) (by decide +kernel) (wof hw.2.1 (by decide +kernel)) (fun _ => rfl) qn_250 d_S_init_39 ?_
  refine sn_f B hnm (e := 86) (e' := 87) (a := 10) (b := 59) (k := 4) (c := 10) (kk := 52) (j := 7) (by decide) flC_10_7 (by decide +kernel) (by decide +kernel) (by decide +kernel) (by decide +kernel) lkC_4 (by decide +kernel) obC_10 hw.1 clC_10 inC_10 toC_10 nmC_10 rfl q_372 rfl rfl (ty := (.array .int)) (by decide +kernel) rfl rfl d_S_init_41 ?_
  refine vj_aload_n (gbx B (e := 87) (a := 10) (b := 59) (by decide)) (p9 := 0) d_S_init_44 rfl rfl ?_
  refine vj_bipush (gbx B (e := 87) (a := 10) (b := 59) (by decide)) (v := 16) d_S_init_45 rfl ?_
  refine sn_i B (e := 87) (e' := 88) (a := 10) (a' := 11) (b := 59) (b' := 75) (k := 53) (n := 16) (z := 0) (by decide) lkC_53 (by decide +kernel) (by decide +kernel) (by decide +kernel) (by decide +kernel) (wof hw.2.1 (by decide +kernel)) (fun _ => rfl) qn_250 d_S_init_47 ?_
  refine sn_f B hnm (e := 88) (e' := 89) (a := 11) (b := 75) (k := 4) (c := 10) (kk := 53) (j := 8) (by decide) flC_10_8 (by decide +kernel) (by decide +kernel) (by decide +kernel) (by decide +kernel) lkC_4 (by decide +kernel) obC_10 hw.1 clC_10 inC_10 toC_10 nmC_10 rfl q_373 rfl rfl (ty := (.array .int)) (by decide +kernel) rfl rfl d_S_init_49 ?_
  refine vj_aload_n (gbx B (e := 89) (a := 11) (b := 75) (by decide)) (p9 := 0) d_S_init_52 rfl rfl ?_
  refine vj_bipush (gbx B (e := 89) (a := 11) (b := 75) (by decide)) (v := 16) d_S_init_53 rfl ?_
  refine sn_i B (e := 89) (e' := 90) (a := 11) (a' := 12) (b := 75) (b' := 91) (k := 54) (n := 16) (z := 0) (by decide) lkC_54 (by decide +kernel) (by decide +kernel) (by decide +kernel) (by decide +kernel) (wof hw.2.1 (by decide +kernel)) (fun _ => rfl) qn_250 d_S_init_55 ?_
  refine sn_f B hnm (e := 90) (e' := 91) (a := 12) (b := 91) (k := 4) (c := 10) (kk := 54) (j := 9) (by decide) flC_10_9 (by decide +kernel) (by decide +kernel) (by decide +kernel) (by decide +kernel) lkC_4 (by decide +kernel) obC_10 hw.1 clC_10 inC_10 toC_10 nmC_10 rfl q_374 rfl rfl (ty := (.array .int)) (by decide +kernel) rfl rfl d_S_init_57 ?_
  refine vj_aload_n (gbx B (e := 91) (a := 12) (b := 91) (by decide)) (p9 := 0) d_S_init_60 rfl rfl ?_
  refine vj_bipush (gbx B (e := 91) (a := 12) (b := 91) (by decide)) (v := 17) d_S_init_61 rfl ?_
  refine sn_i B (e := 91) (e' := 92) (a := 12) (a' := 13) (b := 91) (b' := 108) (k := 55) (n := 17) (z := 0) (by decide) lkC_55 (by decide +kernel) (by decide +kernel) (by decide +kernel) (by decide +kernel) (wof hw.2.1 (by decide +kernel)) (fun _ => rfl) qn_250 d_S_init_63 ?_
  refine sn_f B hnm (e := 92) (e' := 93) (a := 13) (b := 108) (k := 4) (c := 10) (kk := 55) (j := 10) (by decide) flC_10_10 (by decide +kernel) (by decide +kernel) (by decide +kernel) (by decide +kernel) lkC_4 (by decide +kernel) obC_10 hw.1 clC_10 inC_10 toC_10 nmC_10 rfl q_375 rfl rfl (ty := (.array .int)) (by decide +kernel) rfl rfl d_S_init_65 ?_
  refine vj_aload_n (gbx B (e := 93) (a := 13) (b := 108) (by decide)) (p9 := 0) d_S_init_68 rfl rfl ?_
  refine vj_aload_n (gbx B (e := 93) (a := 13) (b := 108) (by decide)) (p9 := 1) d_S_init_69 rfl rfl ?_
  refine sn_f B hnm (e := 93) (e' := 94) (a := 13) (b := 108) (k := 4) (c := 10) (kk := 1) (j := 0) (by decide) flC_10_0 (by decide +kernel) (by decide +kernel) (by decide +kernel) (by decide +kernel) lkC_4 (by decide +kernel) obC_10 hw.1 clC_10 inC_10 toC_10 nmC_10 rfl q_365 rfl rfl (ty := (.object "WhoRules$Register")) (by decide +kernel) rfl rfl d_S_init_70 ?_
  refine vj_aload_n (gbx B (e := 94) (a := 13) (b := 108) (by decide)) (p9 := 0) d_S_init_73 rfl rfl ?_
  refine vj_aload_n (gbx B (e := 94) (a := 13) (b := 108) (by decide)) (p9 := 2) d_S_init_74 rfl rfl ?_
  refine sn_f B hnm (e := 94) (e' := 95) (a := 13) (b := 108) (k := 4) (c := 10) (kk := 3) (j := 1) (by decide) flC_10_1 (by decide +kernel) (by decide +kernel) (by decide +kernel) (by decide +kernel) lkC_4 (by decide +kernel) obC_10 hw.1 clC_10 inC_10 toC_10 nmC_10 rfl q_366 rfl rfl (ty := (.object "WhoRules$Rule")) (by decide +kernel) rfl rfl d_S_init_75 ?_
  exact sn_ret B G9 (by decide) d_S_init_78
set_option maxHeartbeats 8000000 in
set_option maxRecDepth 100000 in
theorem cn_F {w : Wd} (hw : WCC w) : Ctn (SgC 97) (SgC 112) w y_F_init b_F_init 2 none 1 30 393 20 0 [.ref (wa w 5), .ref (wa w 1)] Z0 0 (Z0) := by
  refine Ctn.of (ij_st hw.1) (KstS KstLC9 _) (fun k h => pr_sm (by decide) h) (hnew_st hw.2.1 (by decide) (by decide +kernel)) (by decide +kernel) (Nat.le_of_ble_eq_true rfl) (fun X G9 => ?_)
  have B : GB (SLy LC9 evC efC cnC 0) w X "WhoRules$Flow" b_F_init 2 1 20 97 112 30 393 := gb_of hw.1 KstLC9 G9
  have hnm : (xM X).name = "<init>" := G9.2.2.2.2.2.2.2.2
  show VJ (SgC 97) w (xInc X 0 0) 2 0 0 (Z0) Z0 [(0, .ref (wa w 5)), (1, .ref (wa w 1))] [] 0
  refine vj_aload_n (gbx B (e := 97) (a := 0) (b := 0) (by decide)) (p9 := 0) d_F_init_0 rfl rfl ?_
  refine vj_objInit (gbx B (e := 97) (a := 0) (b := 0) (by decide)) q_407 qo_inst qo_code (by decide) (by decide) (by decide) d_F_init_1 ?_
  refine vj_aload_n (gbx B (e := 97) (a := 0) (b := 0) (by decide)) (p9 := 0) d_F_init_4 rfl rfl ?_
  refine vj_bipush (gbx B (e := 97) (a := 0) (b := 0) (by decide)) (v := 16) d_F_init_5 rfl ?_
  refine vj_bipush (gbx B (e := 97) (a := 0) (b := 0) (by decide)) (v := 16) d_F_init_7 rfl ?_
  refine sn_mi B (e := 97) (e' := 98) (a := 0) (a' := 17) (b := 0) (b' := 272) (k := 56) (n := 16) (z := 180) (K := 16) (by decide) lkC_56 lkC_q180 (by decide +kernel) (by decide +kernel) (by decide +kernel) (by decide +kernel) (by decide +kernel) (wof hw.2.1 (by decide +kernel)) (fun j hj => by rw [hw.2.1, (show ∀ j, j < 16 → evO oaC (180 + j) = evO cnC 97 + 1 + j by decide +kernel) j hj]) (fun _ _ => rfl) (gbx B (e := 97) (a := 0) (b := 0) (by decide)).2.2.2.2.2.2.1.2.2.1 q_408 qn_250 d_F_init_9 ?_
  refine sn_f B hnm (e := 98) (e' := 99) (a := 17) (b := 272) (k := 5) (c := 11) (kk := 56) (j := 1) (by decide) flC_11_1 (by decide +kernel) (by decide +kernel) (by decide +kernel) (by decide +kernel) lkC_5 (by decide +kernel) obC_11 hw.1 clC_11 inC_11 toC_11 nmC_11 rfl q_412 rfl rfl (ty := (.array (.array .int))) (by decide +kernel) rfl rfl d_F_init_13 ?_
  refine vj_aload_n (gbx B (e := 99) (a := 17) (b := 272) (by decide)) (p9 := 0) d_F_init_16 rfl rfl ?_
  refine vj_bipush (gbx B (e := 99) (a := 17) (b := 272) (by decide)) (v := 16) d_F_init_17 rfl ?_
  refine sn_i B (e := 99) (e' := 100) (a := 17) (a' := 18) (b := 272) (b' := 288) (k := 57) (n := 16) (z := 0) (by decide) lkC_57 (by decide +kernel) (by decide +kernel) (by decide +kernel) (by decide +kernel) (wof hw.2.1 (by decide +kernel)) (fun _ => rfl) qn_250 d_F_init_19 ?_
  refine sn_f B hnm (e := 100) (e' := 101) (a := 18) (b := 288) (k := 5) (c := 11) (kk := 57) (j := 2) (by decide) flC_11_2 (by decide +kernel) (by decide +kernel) (by decide +kernel) (by decide +kernel) lkC_5 (by decide +kernel) obC_11 hw.1 clC_11 inC_11 toC_11 nmC_11 rfl q_413 rfl rfl (ty := (.array .int)) (by decide +kernel) rfl rfl d_F_init_21 ?_
  refine vj_aload_n (gbx B (e := 101) (a := 18) (b := 288) (by decide)) (p9 := 0) d_F_init_24 rfl rfl ?_
  refine vj_bipush (gbx B (e := 101) (a := 18) (b := 288) (by decide)) (v := 16) d_F_init_25 rfl ?_
  refine sn_i B (e := 101) (e' := 102) (a := 18) (a' := 19) (b := 288) (b' := 304) (k := 58) (n := 16) (z := 0) (by decide) lkC_58 (by decide +kernel) (by decide +kernel) (by decide +kernel) (by decide +kernel) (wof hw.2.1 (by decide +kernel)) (fun _ => rfl) qn_250 d_F_init_27 ?_
  refine sn_f B hnm (e := 102) (e' := 103) (a := 19) (b := 304) (k := 5) (c := 11) (kk := 58) (j := 3) (by decide) flC_11_3 (by decide +kernel) (by decide +kernel) (by decide +kernel) (by decide +kernel) lkC_5 (by decide +kernel) obC_11 hw.1 clC_11 inC_11 toC_11 nmC_11 rfl q_414 rfl rfl (ty := (.array .int)) (by decide +kernel) rfl rfl d_F_init_29 ?_
  refine vj_aload_n (gbx B (e := 103) (a := 19) (b := 304) (by decide)) (p9 := 0) d_F_init_32 rfl rfl ?_
  refine vj_bipush (gbx B (e := 103) (a := 19) (b := 304) (by decide)) (v := 7) d_F_init_33 rfl ?_
  refine sn_i B (e := 103) (e' := 104) (a := 19) (a' := 20) (b := 304) (b' := 311) (k := 59) (n := 7) (z := 0) (by decide) lkC_59 (by decide +kernel) (by decide +kernel) (by decide +kernel) (by decide +kernel) (wof hw.2.1 (by decide +kernel)) (fun _ => rfl) qn_250 d_F_init_35 ?_
  refine sn_f B hnm (e := 104) (e' := 105) (a := 20) (b := 311) (k := 5) (c := 11) (kk := 59) (j := 4) (by decide) flC_11_4 (by decide +kernel) (by decide +kernel) (by decide +kernel) (by decide +kernel) lkC_5 (by decide +kernel) obC_11 hw.1 clC_11 inC_11 toC_11 nmC_11 rfl q_415 rfl rfl (ty := (.array .int)) (by decide +kernel) rfl rfl d_F_init_37 ?_
  refine vj_aload_n (gbx B (e := 105) (a := 20) (b := 311) (by decide)) (p9 := 0) d_F_init_40 rfl rfl ?_
  refine vj_bipush (gbx B (e := 105) (a := 20) (b := 311) (by decide)) (v := 12) d_F_init_41 rfl ?_
  refine sn_i B (e := 105) (e' := 106) (a := 20) (a' := 21) (b := 311) (b' := 323) (k := 60) (n := 12) (z := 0) (by decide) lkC_60 (by decide +kernel) (by decide +kernel) (by decide +kernel) (by decide +kernel) (wof hw.2.1 (by decide +kernel)) (fun _ => rfl) qn_250 d_F_init_43 ?_
  refine sn_f B hnm (e := 106) (e' := 107) (a := 21) (b := 323) (k := 5) (c := 11) (kk := 60) (j := 5) (by decide) flC_11_5 (by decide +kernel) (by decide +kernel) (by decide +kernel) (by decide +kernel) lkC_5 (by decide +kernel) obC_11 hw.1 clC_11 inC_11 toC_11 nmC_11 rfl q_417 rfl rfl (ty := (.array .int)) (by decide +kernel) rfl rfl d_F_init_45 ?_
  refine vj_aload_n (gbx B (e := 107) (a := 21) (b := 323) (by decide)) (p9 := 0) d_F_init_48 rfl rfl ?_
  refine vj_bipush (gbx B (e := 107) (a := 21) (b := 323) (by decide)) (v := 7) d_F_init_49 rfl ?_
  refine sn_i B (e := 107) (e' := 108) (a := 21) (a' := 22) (b := 323) (b' := 330) (k := 61) (n := 7) (z := 0) (by decide) lkC_61 (by decide +kernel) (by decide +kernel) (by decide +kernel) (by decide +kernel) (wof hw.2.1 (by decide +kernel)) (fun _ => rfl) qn_250 d_F_init_51 ?_
  refine sn_f B hnm (e := 108) (e' := 109) (a := 22) (b := 330) (k := 5) (c := 11) (kk := 61) (j := 6) (by decide) flC_11_6 (by decide +kernel) (by decide +kernel) (by decide +kernel) (by decide +kernel) lkC_5 (by decide +kernel) obC_11 hw.1 clC_11 inC_11 toC_11 nmC_11 rfl q_418 rfl rfl (ty := (.array .int)) (by decide +kernel) rfl rfl d_F_init_53 ?_
  refine vj_aload_n (gbx B (e := 109) (a := 22) (b := 330) (by decide)) (p9 := 0) d_F_init_56 rfl rfl ?_
  refine vj_bipush (gbx B (e := 109) (a := 22) (b := 330) (by decide)) (v := 7) d_F_init_57 rfl ?_
  refine vj_bipush (gbx B (e := 109) (a := 22) (b := 330) (by decide)) (v := 8) d_F_init_59 rfl ?_
  refine sn_mj B (e := 109) (e' := 110) (a := 22) (a' := 30) (b := 330) (b' := 393) (k := 62) (n := 7) (z := 200) (K := 8) (by decide) lkC_62 lkC_q200 (by decide +kernel) (by decide +kernel) (by decide +kernel) (by decide +kernel) (by decide +kernel) (wof hw.2.1 (by decide +kernel)) (fun j hj => by rw [hw.2.1, (show ∀ j, j < 7 → evO oaC (200 + j) = evO cnC 109 + 1 + j by decide +kernel) j hj]) (fun _ _ => rfl) (gbx B (e := 109) (a := 22) (b := 330) (by decide)).2.2.2.2.2.2.1.2.2.2.1 q_409 qn_445 d_F_init_61 ?_
  refine sn_f B hnm (e := 110) (e' := 111) (a := 30) (b := 393) (k := 5) (c := 11) (kk := 62) (j := 7) (by decide) flC_11_7 (by decide +kernel) (by decide +kernel) (by decide +kernel) (by decide +kernel) lkC_5 (by decide +kernel) obC_11 hw.1 clC_11 inC_11 toC_11 nmC_11 rfl q_419 rfl rfl (ty := (.array (.array .long))) (by decide +kernel) rfl rfl d_F_init_65 ?_
  refine vj_aload_n (gbx B (e := 111) (a := 30) (b := 393) (by decide)) (p9 := 0) d_F_init_68 rfl rfl ?_
  refine vj_aload_n (gbx B (e := 111) (a := 30) (b := 393) (by decide)) (p9 := 1) d_F_init_69 rfl rfl ?_
  refine sn_f B hnm (e := 111) (e' := 112) (a := 30) (b := 393) (k := 5) (c := 11) (kk := 1) (j := 0) (by decide) flC_11_0 (by decide +kernel) (by decide +kernel) (by decide +kernel) (by decide +kernel) lkC_5 (by decide +kernel) obC_11 hw.1 clC_11 inC_11 toC_11 nmC_11 rfl q_411 rfl rfl (ty := (.object "WhoRules$Register")) (by decide +kernel) rfl rfl d_F_init_70 ?_
  exact sn_ret B G9 (by decide) d_F_init_73
set_option maxHeartbeats 8000000 in
set_option maxRecDepth 100000 in
theorem cn_W {w : Wd} (hw : WCC w) : Ctn (SgC 2) (SgC 123) w y_W_init b_W_init 1 none 2 140 5119 42 0 [.ref (wa w 0)] Z0 0 (mfil Z0 13 6 (-1)) := by
  refine Ctn.of (ij_st hw.1) (KstS KstLC9 _) (fun k h => pr_sm (by decide) h) (hnew_st hw.2.1 (by decide) (by decide +kernel)) (by decide +kernel) (Nat.le_of_ble_eq_true rfl) (fun X G9 => ?_)
  have B : GB (SLy LC9 evC efC cnC 0) w X "WhoRules" b_W_init 1 2 42 2 123 140 5119 := gb_of hw.1 KstLC9 G9
  have hnm : (xM X).name = "<init>" := G9.2.2.2.2.2.2.2.2
  show VJ (SgC 2) w (xInc X 0 0) 1 0 0 (mfil Z0 13 6 (-1)) Z0 [(0, .ref (wa w 0))] [] 0
  refine vj_aload_n (gbx B (e := 2) (a := 0) (b := 0) (by decide)) (p9 := 0) d_W_init_0 rfl rfl ?_
  refine vj_objInit (gbx B (e := 2) (a := 0) (b := 0) (by decide)) q_135 qo_inst qo_code (by decide) (by decide) (by decide) d_W_init_1 ?_
  refine vj_aload_n (gbx B (e := 2) (a := 0) (b := 0) (by decide)) (p9 := 0) d_W_init_4 rfl rfl ?_
  refine vj_bipush (gbx B (e := 2) (a := 0) (b := 0) (by decide)) (v := 21) d_W_init_5 rfl ?_
  refine sn_i B (e := 2) (e' := 3) (a := 0) (a' := 1) (b := 0) (b' := 21) (k := 10) (n := 21) (z := 0) (by decide) lkC_10 (by decide +kernel) (by decide +kernel) (by decide +kernel) (by decide +kernel) (wof hw.2.1 (by decide +kernel)) (fun _ => rfl) qn_250 d_W_init_7 ?_
  refine sn_f B hnm (e := 3) (e' := 4) (a := 1) (b := 21) (k := 0) (c := 6) (kk := 10) (j := 0) (by decide) flC_6_0 (by decide +kernel) (by decide +kernel) (by decide +kernel) (by decide +kernel) lkC_0 (by decide +kernel) obC_6 hw.1 clC_6 inC_6 toC_6 nmC_6 rfl q_450 rfl rfl (ty := (.array .int)) (by decide +kernel) rfl rfl d_W_init_9 ?_
  refine vj_aload_n (gbx B (e := 4) (a := 1) (b := 21) (by decide)) (p9 := 0) d_W_init_12 rfl rfl ?_
  refine sn_o B (e := 4) (e' := 5) (a := 1) (a' := 2) (b := 21) (b' := 41) (k := 1) (ci := 7) (by decide) lkC_1 (by decide +kernel) (by decide +kernel) (by decide +kernel) (by decide +kernel) (wof hw.2.1 (by decide +kernel)) (fun _ => rfl) clC_7 inC_7 toC_7 (dfC_7 5 (by decide +kernel)) q_138 qn_139 cq_R_init.2.1 d_W_init_13 ?_
  refine vj_dup (gbx B (e := 5) (a := 2) (b := 41) (by decide)) d_W_init_16 rfl ?_
  refine sn_cN B (e := 5) (e' := 33) (a := 2) (a' := 16) (b := 41) (b' := 832) (by decide) (cn_R hw) (gbx B (e := 5) (a := 2) (b := 41) (by decide)).2.2.2.2.2.2.1.2.2.2.2.1 cq_R_init rfl rfl (by decide) (Nat.le_of_ble_eq_true rfl) d_W_init_17 rfl ?_
  refine sn_f B hnm (e := 33) (e' := 34) (a := 16) (b := 832) (k := 0) (c := 6) (kk := 1) (j := 1) (by decide) flC_6_1 (by decide +kernel) (by decide +kernel) (by decide +kernel) (by decide +kernel) lkC_0 (by decide +kernel) obC_6 hw.1 clC_6 inC_6 toC_6 nmC_6 rfl q_451 rfl rfl (ty := (.object "WhoRules$Register")) (by decide +kernel) rfl rfl d_W_init_20 ?_
  refine vj_aload_n (gbx B (e := 34) (a := 16) (b := 832) (by decide)) (p9 := 0) d_W_init_23 rfl rfl ?_
  refine sn_o B (e := 34) (e' := 35) (a := 16) (a' := 17) (b := 832) (b' := 844) (k := 2) (ci := 8) (by decide) lkC_2 (by decide +kernel) (by decide +kernel) (by decide +kernel) (by decide +kernel) (wof hw.2.1 (by decide +kernel)) (fun _ => rfl) clC_8 inC_8 toC_8 (dfC_8 35 (by decide +kernel)) q_251 qn_252 cq_C_init.2.1 d_W_init_24 ?_
  refine vj_dup (gbx B (e := 35) (a := 17) (b := 844) (by decide)) d_W_init_27 rfl ?_
  refine sn_cN B (e := 35) (e' := 51) (a := 17) (a' := 25) (b := 844) (b' := 3364) (by decide) (cn_C hw) (gbx B (e := 35) (a := 17) (b := 844) (by decide)).2.2.2.2.2.2.1.2.2.2.2.2 cq_C_init rfl rfl (by decide) (Nat.le_of_ble_eq_true rfl) d_W_init_28 rfl ?_
  refine sn_f B hnm (e := 51) (e' := 52) (a := 25) (b := 3364) (k := 0) (c := 6) (kk := 2) (j := 2) (by decide) flC_6_2 (by decide +kernel) (by decide +kernel) (by decide +kernel) (by decide +kernel) lkC_0 (by decide +kernel) obC_6 hw.1 clC_6 inC_6 toC_6 nmC_6 rfl q_452 rfl rfl (ty := (.object "WhoRules$Charters")) (by decide +kernel) rfl rfl d_W_init_31 ?_
  refine vj_aload_n (gbx B (e := 52) (a := 25) (b := 3364) (by decide)) (p9 := 0) d_W_init_34 rfl rfl ?_
  refine sn_o B (e := 52) (e' := 53) (a := 25) (a' := 26) (b := 3364) (b' := 3378) (k := 3) (ci := 9) (by decide) lkC_3 (by decide +kernel) (by decide +kernel) (by decide +kernel) (by decide +kernel) (wof hw.2.1 (by decide +kernel)) (fun _ => rfl) clC_9 inC_9 toC_9 (dfC_9 53 (by decide +kernel)) q_297 qn_298 cq_U_init.2.1 d_W_init_35 ?_
  refine vj_dup (gbx B (e := 53) (a := 26) (b := 3378) (by decide)) d_W_init_38 rfl ?_
  refine vj_aload_n (gbx B (e := 53) (a := 26) (b := 3378) (by decide)) (p9 := 0) d_W_init_39 rfl rfl ?_
  refine vj_getf (gbx B (e := 53) (a := 26) (b := 3378) (by decide)) (k := 0) ((stL_at (show evO evC 0 < 53 by decide +kernel)).trans lkC_0) clC_6 inC_6 (j := 1) (by decide) q_451 rfl (v := .ref (wa w 1)) (fvs_get (c := (1, 1)) (stFl_r flC_6_1 (show evG efC 6 1 < 53 by decide +kernel))) d_W_init_40 ?_
  refine vj_aload_n (gbx B (e := 53) (a := 26) (b := 3378) (by decide)) (p9 := 0) d_W_init_43 rfl rfl ?_
  refine vj_getf (gbx B (e := 53) (a := 26) (b := 3378) (by decide)) (k := 0) ((stL_at (show evO evC 0 < 53 by decide +kernel)).trans lkC_0) clC_6 inC_6 (j := 2) (by decide) q_452 rfl (v := .ref (wa w 2)) (fvs_get (c := (1, 2)) (stFl_r flC_6_2 (show evG efC 6 2 < 53 by decide +kernel))) d_W_init_44 ?_
  refine sn_c B (e := 53) (e' := 75) (a := 26) (a' := 84) (b := 3378) (b' := 4158) (by decide) (cn_U hw) q_299 cq_U_init rfl rfl (by decide) (Nat.le_of_ble_eq_true rfl) d_W_init_47 rfl ?_
  refine sn_f B hnm (e := 75) (e' := 76) (a := 84) (b := 4158) (k := 0) (c := 6) (kk := 3) (j := 3) (by decide) flC_6_3 (by decide +kernel) (by decide +kernel) (by decide +kernel) (by decide +kernel) lkC_0 (by decide +kernel) obC_6 hw.1 clC_6 inC_6 toC_6 nmC_6 rfl q_453 rfl rfl (ty := (.object "WhoRules$Rule")) (by decide +kernel) rfl rfl d_W_init_50 ?_
  refine vj_aload_n (gbx B (e := 76) (a := 84) (b := 4158) (by decide)) (p9 := 0) d_W_init_53 rfl rfl ?_
  refine sn_o B (e := 76) (e' := 77) (a := 84) (a' := 85) (b := 4158) (b' := 4170) (k := 4) (ci := 10) (by decide) lkC_4 (by decide +kernel) (by decide +kernel) (by decide +kernel) (by decide +kernel) (wof hw.2.1 (by decide +kernel)) (fun _ => rfl) clC_10 inC_10 toC_10 (dfC_10 77 (by decide +kernel)) q_358 qn_359 cq_S_init.2.1 d_W_init_54 ?_
  refine vj_dup (gbx B (e := 77) (a := 85) (b := 4170) (by decide)) d_W_init_57 rfl ?_
  refine vj_aload_n (gbx B (e := 77) (a := 85) (b := 4170) (by decide)) (p9 := 0) d_W_init_58 rfl rfl ?_
  refine vj_getf (gbx B (e := 77) (a := 85) (b := 4170) (by decide)) (k := 0) ((stL_at (show evO evC 0 < 77 by decide +kernel)).trans lkC_0) clC_6 inC_6 (j := 1) (by decide) q_451 rfl (v := .ref (wa w 1)) (fvs_get (c := (1, 1)) (stFl_r flC_6_1 (show evG efC 6 1 < 77 by decide +kernel))) d_W_init_59 ?_
  refine vj_aload_n (gbx B (e := 77) (a := 85) (b := 4170) (by decide)) (p9 := 0) d_W_init_62 rfl rfl ?_
  refine vj_getf (gbx B (e := 77) (a := 85) (b := 4170) (by decide)) (k := 0) ((stL_at (show evO evC 0 < 77 by decide +kernel)).trans lkC_0) clC_6 inC_6 (j := 3) (by decide) q_453 rfl (v := .ref (wa w 3)) (fvs_get (c := (1, 3)) (stFl_r flC_6_3 (show evG efC 6 3 < 77 by decide +kernel))) d_W_init_63 ?_
  refine sn_c B (e := 77) (e' := 95) (a := 85) (a' := 98) (b := 4170) (b' := 4278) (by decide) (cn_S hw) q_360 cq_S_init rfl rfl (by decide) (Nat.le_of_ble_eq_true rfl) d_W_init_66 rfl ?_
  refine sn_f B hnm (e := 95) (e' := 96) (a := 98) (b := 4278) (k := 0) (c := 6) (kk := 4) (j := 4) (by decide) flC_6_4 (by decide +kernel) (by decide +kernel) (by decide +kernel) (by decide +kernel) lkC_0 (by decide +kernel) obC_6 hw.1 clC_6 inC_6 toC_6 nmC_6 rfl q_454 rfl rfl (ty := (.object "WhoRules$Search")) (by decide +kernel) rfl rfl d_W_init_69 ?_
  refine vj_aload_n (gbx B (e := 96) (a := 98) (b := 4278) (by decide)) (p9 := 0) d_W_init_72 rfl rfl ?_
  refine sn_o B (e := 96) (e' := 97) (a := 98) (a' := 99) (b := 4278) (b' := 4288) (k := 5) (ci := 11) (by decide) lkC_5 (by decide +kernel) (by decide +kernel) (by decide +kernel) (by decide +kernel) (wof hw.2.1 (by decide +kernel)) (fun _ => rfl) clC_11 inC_11 toC_11 (dfC_11 97 (by decide +kernel)) q_402 qn_403 cq_F_init.2.1 d_W_init_73 ?_
  refine vj_dup (gbx B (e := 97) (a := 99) (b := 4288) (by decide)) d_W_init_76 rfl ?_
  refine vj_aload_n (gbx B (e := 97) (a := 99) (b := 4288) (by decide)) (p9 := 0) d_W_init_77 rfl rfl ?_
  refine vj_getf (gbx B (e := 97) (a := 99) (b := 4288) (by decide)) (k := 0) ((stL_at (show evO evC 0 < 97 by decide +kernel)).trans lkC_0) clC_6 inC_6 (j := 1) (by decide) q_451 rfl (v := .ref (wa w 1)) (fvs_get (c := (1, 1)) (stFl_r flC_6_1 (show evG efC 6 1 < 97 by decide +kernel))) d_W_init_78 ?_
  refine sn_c B (e := 97) (e' := 112) (a := 99) (a' := 129) (b := 4288) (b' := 4681) (by decide) (cn_F hw) q_404 cq_F_init rfl rfl (by decide) (Nat.le_of_ble_eq_true rfl) d_W_init_81 rfl ?_
  refine sn_f B hnm (e := 112) (e' := 113) (a := 129) (b := 4681) (k := 0) (c := 6) (kk := 5) (j := 5) (by decide) flC_6_5 (by decide +kernel) (by decide +kernel) (by decide +kernel) (by decide +kernel) lkC_0 (by decide +kernel) obC_6 hw.1 clC_6 inC_6 toC_6 nmC_6 rfl q_455 rfl rfl (ty := (.object "WhoRules$Flow")) (by decide +kernel) rfl rfl d_W_init_84 ?_
  refine vj_aload_n (gbx B (e := 113) (a := 129) (b := 4681) (by decide)) (p9 := 0) d_W_init_87 rfl rfl ?_
  refine vj_bipush (gbx B (e := 113) (a := 129) (b := 4681) (by decide)) (v := 30) d_W_init_88 rfl ?_
  refine sn_i B (e := 113) (e' := 114) (a := 129) (a' := 130) (b := 4681) (b' := 4711) (k := 11) (n := 30) (z := 0) (by decide) lkC_11 (by decide +kernel) (by decide +kernel) (by decide +kernel) (by decide +kernel) (wof hw.2.1 (by decide +kernel)) (fun _ => rfl) qn_250 d_W_init_90 ?_
  refine sn_f B hnm (e := 114) (e' := 115) (a := 130) (b := 4711) (k := 0) (c := 6) (kk := 11) (j := 6) (by decide) flC_6_6 (by decide +kernel) (by decide +kernel) (by decide +kernel) (by decide +kernel) lkC_0 (by decide +kernel) obC_6 hw.1 clC_6 inC_6 toC_6 nmC_6 rfl q_456 rfl rfl (ty := (.array .int)) (by decide +kernel) rfl rfl d_W_init_92 ?_
  refine vj_aload_n (gbx B (e := 115) (a := 130) (b := 4711) (by decide)) (p9 := 0) d_W_init_95 rfl rfl ?_
  refine vj_bipush (gbx B (e := 115) (a := 130) (b := 4711) (by decide)) (v := 30) d_W_init_96 rfl ?_
  refine sn_i B (e := 115) (e' := 116) (a := 130) (a' := 131) (b := 4711) (b' := 4741) (k := 12) (n := 30) (z := 0) (by decide) lkC_12 (by decide +kernel) (by decide +kernel) (by decide +kernel) (by decide +kernel) (wof hw.2.1 (by decide +kernel)) (fun _ => rfl) qn_250 d_W_init_98 ?_
  refine sn_f B hnm (e := 116) (e' := 117) (a := 131) (b := 4741) (k := 0) (c := 6) (kk := 12) (j := 7) (by decide) flC_6_7 (by decide +kernel) (by decide +kernel) (by decide +kernel) (by decide +kernel) lkC_0 (by decide +kernel) obC_6 hw.1 clC_6 inC_6 toC_6 nmC_6 rfl q_457 rfl rfl (ty := (.array .int)) (by decide +kernel) rfl rfl d_W_init_100 ?_
  refine vj_aload_n (gbx B (e := 117) (a := 131) (b := 4741) (by decide)) (p9 := 0) d_W_init_103 rfl rfl ?_
  refine vj_bipush (gbx B (e := 117) (a := 131) (b := 4741) (by decide)) (v := 6) d_W_init_104 rfl ?_
  refine sn_i B (e := 117) (e' := 118) (a := 131) (a' := 132) (b := 4741) (b' := 4747) (k := 13) (n := 6) (z := 0) (by decide) lkC_13 (by decide +kernel) (by decide +kernel) (by decide +kernel) (by decide +kernel) (wof hw.2.1 (by decide +kernel)) (fun _ => rfl) qn_250 d_W_init_106 ?_
  refine sn_f B hnm (e := 118) (e' := 119) (a := 132) (b := 4747) (k := 0) (c := 6) (kk := 13) (j := 9) (by decide) flC_6_9 (by decide +kernel) (by decide +kernel) (by decide +kernel) (by decide +kernel) lkC_0 (by decide +kernel) obC_6 hw.1 clC_6 inC_6 toC_6 nmC_6 rfl q_459 rfl rfl (ty := (.array .int)) (by decide +kernel) rfl rfl d_W_init_108 ?_
  refine vj_aload_n (gbx B (e := 119) (a := 132) (b := 4747) (by decide)) (p9 := 0) d_W_init_111 rfl rfl ?_
  refine vj_bipush (gbx B (e := 119) (a := 132) (b := 4747) (by decide)) (v := 6) d_W_init_112 rfl ?_
  refine sn_i B (e := 119) (e' := 120) (a := 132) (a' := 133) (b := 4747) (b' := 4753) (k := 14) (n := 6) (z := 0) (by decide) lkC_14 (by decide +kernel) (by decide +kernel) (by decide +kernel) (by decide +kernel) (wof hw.2.1 (by decide +kernel)) (fun _ => rfl) qn_250 d_W_init_114 ?_
  refine sn_f B hnm (e := 120) (e' := 121) (a := 133) (b := 4753) (k := 0) (c := 6) (kk := 14) (j := 10) (by decide) flC_6_10 (by decide +kernel) (by decide +kernel) (by decide +kernel) (by decide +kernel) lkC_0 (by decide +kernel) obC_6 hw.1 clC_6 inC_6 toC_6 nmC_6 rfl q_460 rfl rfl (ty := (.array .int)) (by decide +kernel) rfl rfl d_W_init_116 ?_
  refine vj_aload_n (gbx B (e := 121) (a := 133) (b := 4753) (by decide)) (p9 := 0) d_W_init_119 rfl rfl ?_
  refine vj_bipush (gbx B (e := 121) (a := 133) (b := 4753) (by decide)) (v := 6) d_W_init_120 rfl ?_
  refine vj_bipush (gbx B (e := 121) (a := 133) (b := 4753) (by decide)) (v := 60) d_W_init_122 rfl ?_
  refine sn_mj B (e := 121) (e' := 122) (a := 133) (a' := 140) (b := 4753) (b' := 5119) (k := 15) (n := 6) (z := 100) (K := 60) (by decide) lkC_15 lkC_q100 (by decide +kernel) (by decide +kernel) (by decide +kernel) (by decide +kernel) (by decide +kernel) (wof hw.2.1 (by decide +kernel)) (fun j hj => by rw [hw.2.1, (show ∀ j, j < 6 → evO oaC (100 + j) = evO cnC 121 + 1 + j by decide +kernel) j hj]) (fun _ _ => rfl) (gbx B (e := 121) (a := 133) (b := 4753) (by decide)).2.2.2.2.2.2.1.2.2.2.1 q_446 qn_445 d_W_init_124 ?_
  refine sn_f B hnm (e := 122) (e' := 123) (a := 140) (b := 5119) (k := 0) (c := 6) (kk := 15) (j := 11) (by decide) flC_6_11 (by decide +kernel) (by decide +kernel) (by decide +kernel) (by decide +kernel) lkC_0 (by decide +kernel) obC_6 hw.1 clC_6 inC_6 toC_6 nmC_6 rfl q_461 rfl rfl (ty := (.array (.array .long))) (by decide +kernel) rfl rfl d_W_init_128 ?_
  refine vj_aload_n (gbx B (e := 123) (a := 140) (b := 5119) (by decide)) (p9 := 0) d_W_init_131 rfl rfl ?_
  refine vj_getf (gbx B (e := 123) (a := 140) (b := 5119) (by decide)) (k := 0) ((stL_at (show evO evC 0 < 123 by decide +kernel)).trans lkC_0) clC_6 inC_6 (j := 9) (by decide) q_459 rfl (v := .ref (wa w 13)) (fvs_get (c := (1, 13)) (stFl_r flC_6_9 (show evG efC 6 9 < 123 by decide +kernel))) d_W_init_132 ?_
  refine vj_iconst (gbx B (e := 123) (a := 140) (b := 5119) (by decide)) (v := -1) d_W_init_135 rfl ?_
  refine vj_fillI (gbx B (e := 123) (a := 140) (b := 5119) (by decide)) (k := 13) (n := 6) ((stL_at (show evO evC 13 < 123 by decide +kernel)).trans lkC_13) (by decide) (by decide) (by decide) q_447 ic_m1 (by decide) (by decide) (by decide) d_W_init_136 ?_
  exact sn_ret B G9 (by decide) d_W_init_139
