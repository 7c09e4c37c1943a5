/-! Written by wip/whole/gen/lawcases.py. The law's calls, on. -/
set_option maxHeartbeats 4000000 in
set_option maxRecDepth 100000 in
theorem lc_hollow {X : Cx} {w wR : Wd} {M N : Mm} {a b c i z : Nat} {xv : Nat → Int32} (B : BL X) (I : LIw X w wR) (R : RI X wR) (S : LwS X b z xv) (n : Nat) (hn : 70000 ≤ n) (hL : z ≤ 3072) (hi : i + 6 ≤ z) (hr : a ≤ 600000 ∧ c ≤ 7302250) (hJ : J M N) (next : ∀ M9 N9 : Mm, J M9 N9 → LJ LR (xInc X a c) w wR M9 N9 (lvL b (wa w 0) (wa wR 0) i) [] 1562) : LJ LR (xInc X a c) w wR M N (lvL b (wa w 0) (wa wR 0) i) [] 891 := by
  obtain ⟨r, M9, N9, e1, e2, hJ9⟩ := q_hollow n (by omega) (xv (i + 1)).toInt hJ
  have G := gl_C B I hr
  have GR := gl_R B R hr
  refine lj_aload_n G (p9 := 1) d_law_891 rfl rfl ?_
  refine lj_arg G (k := 1) S hL (by omega) rfl ⟨rfl, rfl, rfl, rfl, rfl⟩ d_law_892 d_law_893 d_law_894 d_law_895 d_law_896 ?_
  refine lj_callC G I.2.2.2.2 (fun _ => trivial) (ct_W_hollow I.1 n (xv (i + 1)).toInt (inR_toInt _) e1) rfl q_994 cq_W_hollow rfl (by decide) (Nat.le_of_ble_eq_true rfl) d_law_897 rfl (fun hr1 => ?_)
  refine lj_aload_n G (p9 := 2) d_law_900 rfl rfl ?_
  refine lj_arg G (k := 1) S hL (by omega) rfl ⟨rfl, rfl, rfl, rfl, rfl⟩ d_law_901 d_law_902 d_law_903 d_law_904 d_law_905 ?_
  refine lj_callR GR I.2.2.2.2 (ct_m_hollow R.1 n (xv (i + 1)).toInt (inR_toInt _) e2) rfl q_1778 cq_m_hollow rfl (by decide) (Nat.le_of_ble_eq_true rfl) d_law_906 rfl (fun hr2 => ?_)
  exact lj_icmp_eq G (tgt := 1562) d_law_909 (by decide) hr1 hr1 (fun _ => next _ _ hJ9) (fun h => absurd rfl h)
set_option maxHeartbeats 4000000 in
set_option maxRecDepth 100000 in
theorem lc_pivot {X : Cx} {w wR : Wd} {M N : Mm} {a b c i z : Nat} {xv : Nat → Int32} (B : BL X) (I : LIw X w wR) (R : RI X wR) (S : LwS X b z xv) (n : Nat) (hn : 70000 ≤ n) (hL : z ≤ 3072) (hi : i + 6 ≤ z) (hr : a ≤ 600000 ∧ c ≤ 7302250) (hJ : J M N) (next : ∀ M9 N9 : Mm, J M9 N9 → LJ LR (xInc X a c) w wR M9 N9 (lvL b (wa w 0) (wa wR 0) i) [] 1562) : LJ LR (xInc X a c) w wR M N (lvL b (wa w 0) (wa wR 0) i) [] 914 := by
  obtain ⟨r, M9, N9, e1, e2, hJ9⟩ := q_pivot n (by omega) (xv (i + 1)).toInt (xv (i + 2)).toInt hJ
  have G := gl_C B I hr
  have GR := gl_R B R hr
  refine lj_aload_n G (p9 := 1) d_law_914 rfl rfl ?_
  refine lj_arg G (k := 1) S hL (by omega) rfl ⟨rfl, rfl, rfl, rfl, rfl⟩ d_law_915 d_law_916 d_law_917 d_law_918 d_law_919 ?_
  refine lj_arg G (k := 2) S hL (by omega) rfl ⟨rfl, rfl, rfl, rfl, rfl⟩ d_law_920 d_law_921 d_law_922 d_law_923 d_law_924 ?_
  refine lj_callC G I.2.2.2.2 (fun _ => trivial) (ct_W_pivot I.1 n (xv (i + 1)).toInt (xv (i + 2)).toInt (inR_toInt _) (inR_toInt _) e1) rfl q_1002 cq_W_pivot rfl (by decide) (Nat.le_of_ble_eq_true rfl) d_law_925 rfl (fun hr1 => ?_)
  refine lj_aload_n G (p9 := 2) d_law_928 rfl rfl ?_
  refine lj_arg G (k := 1) S hL (by omega) rfl ⟨rfl, rfl, rfl, rfl, rfl⟩ d_law_929 d_law_930 d_law_931 d_law_932 d_law_933 ?_
  refine lj_arg G (k := 2) S hL (by omega) rfl ⟨rfl, rfl, rfl, rfl, rfl⟩ d_law_934 d_law_935 d_law_936 d_law_937 d_law_938 ?_
  refine lj_callR GR I.2.2.2.2 (ct_m_pivot R.1 n (xv (i + 1)).toInt (xv (i + 2)).toInt (inR_toInt _) (inR_toInt _) e2) rfl q_1782 cq_m_pivot rfl (by decide) (Nat.le_of_ble_eq_true rfl) d_law_939 rfl (fun hr2 => ?_)
  exact lj_icmp_eq G (tgt := 1562) d_law_942 (by decide) hr1 hr1 (fun _ => next _ _ hJ9) (fun h => absurd rfl h)
set_option maxHeartbeats 4000000 in
set_option maxRecDepth 100000 in
theorem lc_buy {X : Cx} {w wR : Wd} {M N : Mm} {a b c i z : Nat} {xv : Nat → Int32} (B : BL X) (I : LIw X w wR) (R : RI X wR) (S : LwS X b z xv) (n : Nat) (hn : 70000 ≤ n) (hL : z ≤ 3072) (hi : i + 6 ≤ z) (hr : a ≤ 600000 ∧ c ≤ 7302250) (hJ : J M N) (next : ∀ M9 N9 : Mm, J M9 N9 → LJ LR (xInc X a c) w wR M9 N9 (lvL b (wa w 0) (wa wR 0) i) [] 1562) : LJ LR (xInc X a c) w wR M N (lvL b (wa w 0) (wa wR 0) i) [] 947 := by
  obtain ⟨r, M9, N9, e1, e2, hJ9⟩ := q_buy n (by omega) (xv (i + 1)).toInt (xv (i + 2)).toInt (xv (i + 3)).toInt hJ
  have G := gl_C B I hr
  have GR := gl_R B R hr
  refine lj_aload_n G (p9 := 1) d_law_947 rfl rfl ?_
  refine lj_arg G (k := 1) S hL (by omega) rfl ⟨rfl, rfl, rfl, rfl, rfl⟩ d_law_948 d_law_949 d_law_950 d_law_951 d_law_952 ?_
  refine lj_arg G (k := 2) S hL (by omega) rfl ⟨rfl, rfl, rfl, rfl, rfl⟩ d_law_953 d_law_954 d_law_955 d_law_956 d_law_957 ?_
  refine lj_arg G (k := 3) S hL (by omega) rfl ⟨rfl, rfl, rfl, rfl, rfl⟩ d_law_958 d_law_959 d_law_960 d_law_961 d_law_962 ?_
  refine lj_callC G I.2.2.2.2 (fun _ => trivial) (ct_W_buy I.1 n (xv (i + 1)).toInt (xv (i + 2)).toInt (xv (i + 3)).toInt (inR_toInt _) (inR_toInt _) (inR_toInt _) e1) rfl q_1027 cq_W_buy rfl (by decide) (Nat.le_of_ble_eq_true rfl) d_law_963 rfl (fun hr1 => ?_)
  refine lj_aload_n G (p9 := 2) d_law_966 rfl rfl ?_
  refine lj_arg G (k := 1) S hL (by omega) rfl ⟨rfl, rfl, rfl, rfl, rfl⟩ d_law_967 d_law_968 d_law_969 d_law_970 d_law_971 ?_
  refine lj_arg G (k := 2) S hL (by omega) rfl ⟨rfl, rfl, rfl, rfl, rfl⟩ d_law_972 d_law_973 d_law_974 d_law_975 d_law_976 ?_
  refine lj_arg G (k := 3) S hL (by omega) rfl ⟨rfl, rfl, rfl, rfl, rfl⟩ d_law_977 d_law_978 d_law_979 d_law_980 d_law_981 ?_
  refine lj_callR GR I.2.2.2.2 (ct_m_buy R.1 n (xv (i + 1)).toInt (xv (i + 2)).toInt (xv (i + 3)).toInt (inR_toInt _) (inR_toInt _) (inR_toInt _) e2) rfl q_1790 cq_m_buy rfl (by decide) (Nat.le_of_ble_eq_true rfl) d_law_982 rfl (fun hr2 => ?_)
  exact lj_lcmp_eq G (tgt := 1562) d_law_985 d_law_986 (by decide) hr1 hr1 (fun _ => next _ _ hJ9) (fun h => absurd rfl h)
set_option maxHeartbeats 4000000 in
set_option maxRecDepth 100000 in
theorem lc_sold {X : Cx} {w wR : Wd} {M N : Mm} {a b c i z : Nat} {xv : Nat → Int32} (B : BL X) (I : LIw X w wR) (R : RI X wR) (S : LwS X b z xv) (n : Nat) (hn : 70000 ≤ n) (hL : z ≤ 3072) (hi : i + 6 ≤ z) (hr : a ≤ 600000 ∧ c ≤ 7302250) (hJ : J M N) (next : ∀ M9 N9 : Mm, J M9 N9 → LJ LR (xInc X a c) w wR M9 N9 (lvL b (wa w 0) (wa wR 0) i) [] 1562) : LJ LR (xInc X a c) w wR M N (lvL b (wa w 0) (wa wR 0) i) [] 991 := by
  obtain ⟨r, M9, N9, e1, e2, hJ9⟩ := q_sold n (by omega) (xv (i + 1)).toInt hJ
  have G := gl_C B I hr
  have GR := gl_R B R hr
  refine lj_aload_n G (p9 := 1) d_law_991 rfl rfl ?_
  refine lj_arg G (k := 1) S hL (by omega) rfl ⟨rfl, rfl, rfl, rfl, rfl⟩ d_law_992 d_law_993 d_law_994 d_law_995 d_law_996 ?_
  refine lj_callC G I.2.2.2.2 (fun _ => trivial) (ct_W_sold I.1 n (xv (i + 1)).toInt (inR_toInt _) e1) rfl q_1066 cq_W_sold rfl (by decide) (Nat.le_of_ble_eq_true rfl) d_law_997 rfl (fun hr1 => ?_)
  refine lj_aload_n G (p9 := 2) d_law_1000 rfl rfl ?_
  refine lj_arg G (k := 1) S hL (by omega) rfl ⟨rfl, rfl, rfl, rfl, rfl⟩ d_law_1001 d_law_1002 d_law_1003 d_law_1004 d_law_1005 ?_
  refine lj_callR GR I.2.2.2.2 (ct_m_sold R.1 n (xv (i + 1)).toInt (inR_toInt _) e2) rfl q_1811 cq_m_sold rfl (by decide) (Nat.le_of_ble_eq_true rfl) d_law_1006 rfl (fun hr2 => ?_)
  exact lj_icmp_eq G (tgt := 1562) d_law_1009 (by decide) hr1 hr1 (fun _ => next _ _ hJ9) (fun h => absurd rfl h)
set_option maxHeartbeats 4000000 in
set_option maxRecDepth 100000 in
theorem lc_free {X : Cx} {w wR : Wd} {M N : Mm} {a b c i z : Nat} {xv : Nat → Int32} (B : BL X) (I : LIw X w wR) (R : RI X wR) (S : LwS X b z xv) (n : Nat) (hn : 70000 ≤ n) (hL : z ≤ 3072) (hi : i + 6 ≤ z) (hr : a ≤ 600000 ∧ c ≤ 7302250) (hJ : J M N) (next : ∀ M9 N9 : Mm, J M9 N9 → LJ LR (xInc X a c) w wR M9 N9 (lvL b (wa w 0) (wa wR 0) i) [] 1562) : LJ LR (xInc X a c) w wR M N (lvL b (wa w 0) (wa wR 0) i) [] 1014 := by
  obtain ⟨r, M9, N9, e1, e2, hJ9⟩ := q_free n (by omega) (xv (i + 1)).toInt hJ
  have G := gl_C B I hr
  have GR := gl_R B R hr
  refine lj_aload_n G (p9 := 1) d_law_1014 rfl rfl ?_
  refine lj_arg G (k := 1) S hL (by omega) rfl ⟨rfl, rfl, rfl, rfl, rfl⟩ d_law_1015 d_law_1016 d_law_1017 d_law_1018 d_law_1019 ?_
  refine lj_callC G I.2.2.2.2 (fun _ => trivial) (ct_W_free I.1 n (xv (i + 1)).toInt (inR_toInt _) e1) rfl q_1077 cq_W_free rfl (by decide) (Nat.le_of_ble_eq_true rfl) d_law_1020 rfl (fun hr1 => ?_)
  refine lj_aload_n G (p9 := 2) d_law_1023 rfl rfl ?_
  refine lj_arg G (k := 1) S hL (by omega) rfl ⟨rfl, rfl, rfl, rfl, rfl⟩ d_law_1024 d_law_1025 d_law_1026 d_law_1027 d_law_1028 ?_
  refine lj_callR GR I.2.2.2.2 (ct_m_free R.1 n (xv (i + 1)).toInt (inR_toInt _) e2) rfl q_1815 cq_m_free rfl (by decide) (Nat.le_of_ble_eq_true rfl) d_law_1029 rfl (fun hr2 => ?_)
  exact lj_lcmp_eq G (tgt := 1562) d_law_1032 d_law_1033 (by decide) hr1 hr1 (fun _ => next _ _ hJ9) (fun h => absurd rfl h)
set_option maxHeartbeats 4000000 in
set_option maxRecDepth 100000 in
theorem lc_may {X : Cx} {w wR : Wd} {M N : Mm} {a b c i z : Nat} {xv : Nat → Int32} (B : BL X) (I : LIw X w wR) (R : RI X wR) (S : LwS X b z xv) (n : Nat) (hn : 70000 ≤ n) (hL : z ≤ 3072) (hi : i + 6 ≤ z) (hr : a ≤ 600000 ∧ c ≤ 7302250) (hJ : J M N) (next : ∀ M9 N9 : Mm, J M9 N9 → LJ LR (xInc X a c) w wR M9 N9 (lvL b (wa w 0) (wa wR 0) i) [] 1562) : LJ LR (xInc X a c) w wR M N (lvL b (wa w 0) (wa wR 0) i) [] 1038 := by
  obtain ⟨r, M9, N9, e1, e2, hJ9⟩ := q_may n (by omega) (xv (i + 1)).toInt (xv (i + 2)).toInt (xv (i + 3)).toInt (xv (i + 4)).toInt hJ
  have G := gl_C B I hr
  have GR := gl_R B R hr
  refine lj_aload_n G (p9 := 1) d_law_1038 rfl rfl ?_
  refine lj_arg G (k := 1) S hL (by omega) rfl ⟨rfl, rfl, rfl, rfl, rfl⟩ d_law_1039 d_law_1040 d_law_1041 d_law_1042 d_law_1043 ?_
  refine lj_arg G (k := 2) S hL (by omega) rfl ⟨rfl, rfl, rfl, rfl, rfl⟩ d_law_1044 d_law_1045 d_law_1046 d_law_1047 d_law_1048 ?_
  refine lj_arg G (k := 3) S hL (by omega) rfl ⟨rfl, rfl, rfl, rfl, rfl⟩ d_law_1049 d_law_1050 d_law_1051 d_law_1052 d_law_1053 ?_
  refine lj_arg G (k := 4) S hL (by omega) rfl ⟨rfl, rfl, rfl, rfl, rfl⟩ d_law_1054 d_law_1055 d_law_1056 d_law_1057 d_law_1058 ?_
  refine lj_callC G I.2.2.2.2 (fun _ => trivial) (ct_W_may I.1 n (xv (i + 1)).toInt (xv (i + 2)).toInt (xv (i + 3)).toInt (xv (i + 4)).toInt (inR_toInt _) (inR_toInt _) (inR_toInt _) (inR_toInt _) e1) rfl q_1090 cq_W_may rfl (by decide) (Nat.le_of_ble_eq_true rfl) d_law_1059 rfl (fun hr1 => ?_)
  refine lj_aload_n G (p9 := 2) d_law_1062 rfl rfl ?_
  refine lj_arg G (k := 1) S hL (by omega) rfl ⟨rfl, rfl, rfl, rfl, rfl⟩ d_law_1063 d_law_1064 d_law_1065 d_law_1066 d_law_1067 ?_
  refine lj_arg G (k := 2) S hL (by omega) rfl ⟨rfl, rfl, rfl, rfl, rfl⟩ d_law_1068 d_law_1069 d_law_1070 d_law_1071 d_law_1072 ?_
  refine lj_arg G (k := 3) S hL (by omega) rfl ⟨rfl, rfl, rfl, rfl, rfl⟩ d_law_1073 d_law_1074 d_law_1075 d_law_1076 d_law_1077 ?_
  refine lj_arg G (k := 4) S hL (by omega) rfl ⟨rfl, rfl, rfl, rfl, rfl⟩ d_law_1078 d_law_1079 d_law_1080 d_law_1081 d_law_1082 ?_
  refine lj_callR GR I.2.2.2.2 (ct_m_may R.1 n (xv (i + 1)).toInt (xv (i + 2)).toInt (xv (i + 3)).toInt (xv (i + 4)).toInt (inR_toInt _) (inR_toInt _) (inR_toInt _) (inR_toInt _) e2) rfl q_1819 cq_m_may rfl (by decide) (Nat.le_of_ble_eq_true rfl) d_law_1083 rfl (fun hr2 => ?_)
  exact lj_icmp_eq G (tgt := 1562) d_law_1086 (by decide) hr1 hr1 (fun _ => next _ _ hJ9) (fun h => absurd rfl h)
set_option maxHeartbeats 4000000 in
set_option maxRecDepth 100000 in
theorem lc_motion {X : Cx} {w wR : Wd} {M N : Mm} {a b c i z : Nat} {xv : Nat → Int32} (B : BL X) (I : LIw X w wR) (R : RI X wR) (S : LwS X b z xv) (n : Nat) (hn : 70000 ≤ n) (hL : z ≤ 3072) (hi : i + 6 ≤ z) (hr : a ≤ 600000 ∧ c ≤ 7302250) (hJ : J M N) (next : ∀ M9 N9 : Mm, J M9 N9 → LJ LR (xInc X a c) w wR M9 N9 (lvL b (wa w 0) (wa wR 0) i) [] 1562) : LJ LR (xInc X a c) w wR M N (lvL b (wa w 0) (wa wR 0) i) [] 1091 := by
  obtain ⟨r, M9, N9, e1, e2, hJ9⟩ := q_motion n (xv (i + 1)).toInt (xv (i + 2)).toInt (inR_toInt _) (inR_toInt _) hJ
  have G := gl_C B I hr
  have GR := gl_R B R hr
  refine lj_aload_n G (p9 := 1) d_law_1091 rfl rfl ?_
  refine lj_arg G (k := 1) S hL (by omega) rfl ⟨rfl, rfl, rfl, rfl, rfl⟩ d_law_1092 d_law_1093 d_law_1094 d_law_1095 d_law_1096 ?_
  refine lj_arg G (k := 2) S hL (by omega) rfl ⟨rfl, rfl, rfl, rfl, rfl⟩ d_law_1097 d_law_1098 d_law_1099 d_law_1100 d_law_1101 ?_
  refine lj_callC G I.2.2.2.2 (fun _ => trivial) (ct_W_motion I.1 n (xv (i + 1)).toInt (xv (i + 2)).toInt (inR_toInt _) (inR_toInt _) e1) rfl q_1098 cq_W_motion rfl (by decide) (Nat.le_of_ble_eq_true rfl) d_law_1102 rfl (fun hr1 => ?_)
  refine lj_aload_n G (p9 := 2) d_law_1105 rfl rfl ?_
  refine lj_arg G (k := 1) S hL (by omega) rfl ⟨rfl, rfl, rfl, rfl, rfl⟩ d_law_1106 d_law_1107 d_law_1108 d_law_1109 d_law_1110 ?_
  refine lj_arg G (k := 2) S hL (by omega) rfl ⟨rfl, rfl, rfl, rfl, rfl⟩ d_law_1111 d_law_1112 d_law_1113 d_law_1114 d_law_1115 ?_
  refine lj_callR GR I.2.2.2.2 (ct_m_motion R.1 n (xv (i + 1)).toInt (xv (i + 2)).toInt (inR_toInt _) (inR_toInt _) e2) rfl q_1823 cq_m_motion rfl (by decide) (Nat.le_of_ble_eq_true rfl) d_law_1116 rfl (fun hr2 => ?_)
  exact lj_icmp_eq G (tgt := 1562) d_law_1119 (by decide) hr1 hr1 (fun _ => next _ _ hJ9) (fun h => absurd rfl h)
set_option maxHeartbeats 4000000 in
set_option maxRecDepth 100000 in
theorem lc_alike {X : Cx} {w wR : Wd} {M N : Mm} {a b c i z : Nat} {xv : Nat → Int32} (B : BL X) (I : LIw X w wR) (R : RI X wR) (S : LwS X b z xv) (n : Nat) (hn : 70000 ≤ n) (hL : z ≤ 3072) (hi : i + 6 ≤ z) (hr : a ≤ 600000 ∧ c ≤ 7302250) (hJ : J M N) (next : ∀ M9 N9 : Mm, J M9 N9 → LJ LR (xInc X a c) w wR M9 N9 (lvL b (wa w 0) (wa wR 0) i) [] 1562) : LJ LR (xInc X a c) w wR M N (lvL b (wa w 0) (wa wR 0) i) [] 1124 := by
  obtain ⟨r, M9, N9, e1, e2, hJ9⟩ := q_alike n (by omega) (xv (i + 1)).toInt (xv (i + 2)).toInt (xv (i + 3)).toInt hJ
  have G := gl_C B I hr
  have GR := gl_R B R hr
  refine lj_aload_n G (p9 := 1) d_law_1124 rfl rfl ?_
  refine lj_arg G (k := 1) S hL (by omega) rfl ⟨rfl, rfl, rfl, rfl, rfl⟩ d_law_1125 d_law_1126 d_law_1127 d_law_1128 d_law_1129 ?_
  refine lj_arg G (k := 2) S hL (by omega) rfl ⟨rfl, rfl, rfl, rfl, rfl⟩ d_law_1130 d_law_1131 d_law_1132 d_law_1133 d_law_1134 ?_
  refine lj_arg G (k := 3) S hL (by omega) rfl ⟨rfl, rfl, rfl, rfl, rfl⟩ d_law_1135 d_law_1136 d_law_1137 d_law_1138 d_law_1139 ?_
  refine lj_callC G I.2.2.2.2 (fun _ => trivial) (ct_W_alike I.1 n (xv (i + 1)).toInt (xv (i + 2)).toInt (xv (i + 3)).toInt (inR_toInt _) (inR_toInt _) (inR_toInt _) e1) rfl q_1102 cq_W_alike rfl (by decide) (Nat.le_of_ble_eq_true rfl) d_law_1140 rfl (fun hr1 => ?_)
  refine lj_aload_n G (p9 := 2) d_law_1143 rfl rfl ?_
  refine lj_arg G (k := 1) S hL (by omega) rfl ⟨rfl, rfl, rfl, rfl, rfl⟩ d_law_1144 d_law_1145 d_law_1146 d_law_1147 d_law_1148 ?_
  refine lj_arg G (k := 2) S hL (by omega) rfl ⟨rfl, rfl, rfl, rfl, rfl⟩ d_law_1149 d_law_1150 d_law_1151 d_law_1152 d_law_1153 ?_
  refine lj_arg G (k := 3) S hL (by omega) rfl ⟨rfl, rfl, rfl, rfl, rfl⟩ d_law_1154 d_law_1155 d_law_1156 d_law_1157 d_law_1158 ?_
  refine lj_callR GR I.2.2.2.2 (ct_m_alike R.1 n (xv (i + 1)).toInt (xv (i + 2)).toInt (xv (i + 3)).toInt (inR_toInt _) (inR_toInt _) (inR_toInt _) e2) rfl q_1827 cq_m_alike rfl (by decide) (Nat.le_of_ble_eq_true rfl) d_law_1159 rfl (fun hr2 => ?_)
  exact lj_icmp_eq G (tgt := 1562) d_law_1162 (by decide) hr1 hr1 (fun _ => next _ _ hJ9) (fun h => absurd rfl h)
set_option maxHeartbeats 4000000 in
set_option maxRecDepth 100000 in
theorem lc_found {X : Cx} {w wR : Wd} {M N : Mm} {a b c i z : Nat} {xv : Nat → Int32} (B : BL X) (I : LIw X w wR) (R : RI X wR) (S : LwS X b z xv) (n : Nat) (hn : 70000 ≤ n) (hL : z ≤ 3072) (hi : i + 6 ≤ z) (hr : a ≤ 600000 ∧ c ≤ 7302250) (hJ : J M N) (next : ∀ M9 N9 : Mm, J M9 N9 → LJ LR (xInc X a c) w wR M9 N9 (lvL b (wa w 0) (wa wR 0) i) [] 1562) : LJ LR (xInc X a c) w wR M N (lvL b (wa w 0) (wa wR 0) i) [] 1167 := by
  obtain ⟨r, M9, N9, e1, e2, hJ9⟩ := q_found n (by omega) (xv (i + 1)).toInt hJ
  have G := gl_C B I hr
  have GR := gl_R B R hr
  refine lj_aload_n G (p9 := 1) d_law_1167 rfl rfl ?_
  refine lj_arg G (k := 1) S hL (by omega) rfl ⟨rfl, rfl, rfl, rfl, rfl⟩ d_law_1168 d_law_1169 d_law_1170 d_law_1171 d_law_1172 ?_
  refine lj_callC G I.2.2.2.2 (fun _ => trivial) (ct_W_found I.1 n (xv (i + 1)).toInt (inR_toInt _) e1) rfl q_1114 cq_W_found rfl (by decide) (Nat.le_of_ble_eq_true rfl) d_law_1173 rfl (fun hr1 => ?_)
  refine lj_aload_n G (p9 := 2) d_law_1176 rfl rfl ?_
  refine lj_arg G (k := 1) S hL (by omega) rfl ⟨rfl, rfl, rfl, rfl, rfl⟩ d_law_1177 d_law_1178 d_law_1179 d_law_1180 d_law_1181 ?_
  refine lj_callR GR I.2.2.2.2 (ct_m_found R.1 n (xv (i + 1)).toInt (inR_toInt _) e2) rfl q_1835 cq_m_found rfl (by decide) (Nat.le_of_ble_eq_true rfl) d_law_1182 rfl (fun hr2 => ?_)
  exact lj_icmp_eq G (tgt := 1562) d_law_1185 (by decide) hr1 hr1 (fun _ => next _ _ hJ9) (fun h => absurd rfl h)
set_option maxHeartbeats 4000000 in
set_option maxRecDepth 100000 in
theorem lc_ring {X : Cx} {w wR : Wd} {M N : Mm} {a b c i z : Nat} {xv : Nat → Int32} (B : BL X) (I : LIw X w wR) (R : RI X wR) (S : LwS X b z xv) (n : Nat) (hn : 70000 ≤ n) (hL : z ≤ 3072) (hi : i + 6 ≤ z) (hr : a ≤ 600000 ∧ c ≤ 7302250) (hJ : J M N) (next : ∀ M9 N9 : Mm, J M9 N9 → LJ LR (xInc X a c) w wR M9 N9 (lvL b (wa w 0) (wa wR 0) i) [] 1562) : LJ LR (xInc X a c) w wR M N (lvL b (wa w 0) (wa wR 0) i) [] 1190 := by
  obtain ⟨r, M9, N9, e1, e2, hJ9⟩ := q_ring n (by omega) (xv (i + 1)).toInt hJ
  have G := gl_C B I hr
  have GR := gl_R B R hr
  refine lj_aload_n G (p9 := 1) d_law_1190 rfl rfl ?_
  refine lj_arg G (k := 1) S hL (by omega) rfl ⟨rfl, rfl, rfl, rfl, rfl⟩ d_law_1191 d_law_1192 d_law_1193 d_law_1194 d_law_1195 ?_
  refine lj_callC G I.2.2.2.2 (fun _ => trivial) (ct_W_ring I.1 n (xv (i + 1)).toInt (inR_toInt _) e1) rfl q_1128 cq_W_ring rfl (by decide) (Nat.le_of_ble_eq_true rfl) d_law_1196 rfl (fun hr1 => ?_)
  refine lj_aload_n G (p9 := 2) d_law_1199 rfl rfl ?_
  refine lj_arg G (k := 1) S hL (by omega) rfl ⟨rfl, rfl, rfl, rfl, rfl⟩ d_law_1200 d_law_1201 d_law_1202 d_law_1203 d_law_1204 ?_
  refine lj_callR GR I.2.2.2.2 (ct_m_ring R.1 n (xv (i + 1)).toInt (inR_toInt _) e2) rfl q_1843 cq_m_ring rfl (by decide) (Nat.le_of_ble_eq_true rfl) d_law_1205 rfl (fun hr2 => ?_)
  exact lj_icmp_eq G (tgt := 1562) d_law_1208 (by decide) hr1 hr1 (fun _ => next _ _ hJ9) (fun h => absurd rfl h)
set_option maxHeartbeats 4000000 in
set_option maxRecDepth 100000 in
theorem lc_breaks {X : Cx} {w wR : Wd} {M N : Mm} {a b c i z : Nat} {xv : Nat → Int32} (B : BL X) (I : LIw X w wR) (R : RI X wR) (S : LwS X b z xv) (n : Nat) (hn : 70000 ≤ n) (hL : z ≤ 3072) (hi : i + 6 ≤ z) (hr : a ≤ 600000 ∧ c ≤ 7302250) (hJ : J M N) (next : ∀ M9 N9 : Mm, J M9 N9 → LJ LR (xInc X a c) w wR M9 N9 (lvL b (wa w 0) (wa wR 0) i) [] 1562) : LJ LR (xInc X a c) w wR M N (lvL b (wa w 0) (wa wR 0) i) [] 1213 := by
  obtain ⟨r, M9, N9, e1, e2, hJ9⟩ := q_breaks n (by omega) hJ
  have G := gl_C B I hr
  have GR := gl_R B R hr
  refine lj_aload_n G (p9 := 1) d_law_1213 rfl rfl ?_
  refine lj_callC G I.2.2.2.2 (fun _ => trivial) (ct_W_breaks I.1 n  e1) rfl q_1139 cq_W_breaks rfl (by decide) (Nat.le_of_ble_eq_true rfl) d_law_1214 rfl (fun hr1 => ?_)
  refine lj_aload_n G (p9 := 2) d_law_1217 rfl rfl ?_
  refine lj_callR GR I.2.2.2.2 (ct_m_breaks R.1 n   e2) rfl q_1859 cq_m_breaks rfl (by decide) (Nat.le_of_ble_eq_true rfl) d_law_1218 rfl (fun hr2 => ?_)
  exact lj_lcmp_eq G (tgt := 1562) d_law_1221 d_law_1222 (by decide) hr1 hr1 (fun _ => next _ _ hJ9) (fun h => absurd rfl h)
set_option maxHeartbeats 4000000 in
set_option maxRecDepth 100000 in
theorem lc_act {X : Cx} {w wR : Wd} {M N : Mm} {a b c i z : Nat} {xv : Nat → Int32} (B : BL X) (I : LIw X w wR) (R : RI X wR) (S : LwS X b z xv) (n : Nat) (hn : 70000 ≤ n) (hL : z ≤ 3072) (hi : i + 6 ≤ z) (hr : a ≤ 600000 ∧ c ≤ 7302250) (hJ : J M N) (next : ∀ M9 N9 : Mm, J M9 N9 → LJ LR (xInc X a c) w wR M9 N9 (lvL b (wa w 0) (wa wR 0) i) [] 1562) : LJ LR (xInc X a c) w wR M N (lvL b (wa w 0) (wa wR 0) i) [] 1227 := by
  obtain ⟨r, M9, N9, e1, e2, hJ9⟩ := q_act n (xv (i + 1)).toInt (xv (i + 2)).toInt (xv (i + 3)).toInt hJ
  have G := gl_C B I hr
  have GR := gl_R B R hr
  refine lj_aload_n G (p9 := 1) d_law_1227 rfl rfl ?_
  refine lj_arg G (k := 1) S hL (by omega) rfl ⟨rfl, rfl, rfl, rfl, rfl⟩ d_law_1228 d_law_1229 d_law_1230 d_law_1231 d_law_1232 ?_
  refine lj_arg G (k := 2) S hL (by omega) rfl ⟨rfl, rfl, rfl, rfl, rfl⟩ d_law_1233 d_law_1234 d_law_1235 d_law_1236 d_law_1237 ?_
  refine lj_arg G (k := 3) S hL (by omega) rfl ⟨rfl, rfl, rfl, rfl, rfl⟩ d_law_1238 d_law_1239 d_law_1240 d_law_1241 d_law_1242 ?_
  refine lj_callC G I.2.2.2.2 (fun _ => trivial) (ct_W_act I.1 n (xv (i + 1)).toInt (xv (i + 2)).toInt (xv (i + 3)).toInt (inR_toInt _) (inR_toInt _) (inR_toInt _) e1) rfl q_1156 cq_W_act rfl (by decide) (Nat.le_of_ble_eq_true rfl) d_law_1243 rfl (fun hr1 => ?_)
  refine lj_aload_n G (p9 := 2) d_law_1246 rfl rfl ?_
  refine lj_arg G (k := 1) S hL (by omega) rfl ⟨rfl, rfl, rfl, rfl, rfl⟩ d_law_1247 d_law_1248 d_law_1249 d_law_1250 d_law_1251 ?_
  refine lj_arg G (k := 2) S hL (by omega) rfl ⟨rfl, rfl, rfl, rfl, rfl⟩ d_law_1252 d_law_1253 d_law_1254 d_law_1255 d_law_1256 ?_
  refine lj_arg G (k := 3) S hL (by omega) rfl ⟨rfl, rfl, rfl, rfl, rfl⟩ d_law_1257 d_law_1258 d_law_1259 d_law_1260 d_law_1261 ?_
  refine lj_callR GR I.2.2.2.2 (ct_m_act R.1 n (xv (i + 1)).toInt (xv (i + 2)).toInt (xv (i + 3)).toInt (inR_toInt _) (inR_toInt _) (inR_toInt _) e2) rfl q_1867 cq_m_act rfl (by decide) (Nat.le_of_ble_eq_true rfl) d_law_1262 rfl (fun hr2 => ?_)
  exact lj_icmp_eq G (tgt := 1562) d_law_1265 (by decide) hr1 hr1 (fun _ => next _ _ hJ9) (fun h => absurd rfl h)
set_option maxHeartbeats 4000000 in
set_option maxRecDepth 100000 in
theorem lc_trace {X : Cx} {w wR : Wd} {M N : Mm} {a b c i z : Nat} {xv : Nat → Int32} (B : BL X) (I : LIw X w wR) (R : RI X wR) (S : LwS X b z xv) (n : Nat) (hn : 70000 ≤ n) (hL : z ≤ 3072) (hi : i + 6 ≤ z) (hr : a ≤ 600000 ∧ c ≤ 7302250) (hJ : J M N) (next : ∀ M9 N9 : Mm, J M9 N9 → LJ LR (xInc X a c) w wR M9 N9 (lvL b (wa w 0) (wa wR 0) i) [] 1562) : LJ LR (xInc X a c) w wR M N (lvL b (wa w 0) (wa wR 0) i) [] 1270 := by
  obtain ⟨r, M9, N9, e1, e2, hJ9⟩ := q_trace n (xv (i + 1)).toInt hJ
  have G := gl_C B I hr
  have GR := gl_R B R hr
  refine lj_aload_n G (p9 := 1) d_law_1270 rfl rfl ?_
  refine lj_arg G (k := 1) S hL (by omega) rfl ⟨rfl, rfl, rfl, rfl, rfl⟩ d_law_1271 d_law_1272 d_law_1273 d_law_1274 d_law_1275 ?_
  refine lj_callC G I.2.2.2.2 (fun _ => trivial) (ct_W_trace I.1 n (xv (i + 1)).toInt (inR_toInt _) e1) rfl q_1250 cq_W_trace rfl (by decide) (Nat.le_of_ble_eq_true rfl) d_law_1276 rfl (fun hr1 => ?_)
  refine lj_aload_n G (p9 := 2) d_law_1279 rfl rfl ?_
  refine lj_arg G (k := 1) S hL (by omega) rfl ⟨rfl, rfl, rfl, rfl, rfl⟩ d_law_1280 d_law_1281 d_law_1282 d_law_1283 d_law_1284 ?_
  refine lj_callR GR I.2.2.2.2 (ct_m_trace R.1 n (xv (i + 1)).toInt (inR_toInt _) e2) rfl q_1907 cq_m_trace rfl (by decide) (Nat.le_of_ble_eq_true rfl) d_law_1285 rfl (fun hr2 => ?_)
  exact lj_icmp_eq G (tgt := 1562) d_law_1288 (by decide) hr1 hr1 (fun _ => next _ _ hJ9) (fun h => absurd rfl h)
set_option maxHeartbeats 4000000 in
set_option maxRecDepth 100000 in
theorem lc_taken {X : Cx} {w wR : Wd} {M N : Mm} {a b c i z : Nat} {xv : Nat → Int32} (B : BL X) (I : LIw X w wR) (R : RI X wR) (S : LwS X b z xv) (n : Nat) (hn : 70000 ≤ n) (hL : z ≤ 3072) (hi : i + 6 ≤ z) (hr : a ≤ 600000 ∧ c ≤ 7302250) (hJ : J M N) (next : ∀ M9 N9 : Mm, J M9 N9 → LJ LR (xInc X a c) w wR M9 N9 (lvL b (wa w 0) (wa wR 0) i) [] 1562) : LJ LR (xInc X a c) w wR M N (lvL b (wa w 0) (wa wR 0) i) [] 1293 := by
  obtain ⟨r, M9, N9, e1, e2, hJ9⟩ := q_taken n (xv (i + 1)).toInt (xv (i + 2)).toInt hJ
  have G := gl_C B I hr
  have GR := gl_R B R hr
  refine lj_aload_n G (p9 := 1) d_law_1293 rfl rfl ?_
  refine lj_arg G (k := 1) S hL (by omega) rfl ⟨rfl, rfl, rfl, rfl, rfl⟩ d_law_1294 d_law_1295 d_law_1296 d_law_1297 d_law_1298 ?_
  refine lj_arg G (k := 2) S hL (by omega) rfl ⟨rfl, rfl, rfl, rfl, rfl⟩ d_law_1299 d_law_1300 d_law_1301 d_law_1302 d_law_1303 ?_
  refine lj_callC G I.2.2.2.2 (fun _ => trivial) (ct_W_taken I.1 n (xv (i + 1)).toInt (xv (i + 2)).toInt (inR_toInt _) (inR_toInt _) e1) rfl q_1254 cq_W_taken rfl (by decide) (Nat.le_of_ble_eq_true rfl) d_law_1304 rfl (fun hr1 => ?_)
  refine lj_aload_n G (p9 := 2) d_law_1307 rfl rfl ?_
  refine lj_arg G (k := 1) S hL (by omega) rfl ⟨rfl, rfl, rfl, rfl, rfl⟩ d_law_1308 d_law_1309 d_law_1310 d_law_1311 d_law_1312 ?_
  refine lj_arg G (k := 2) S hL (by omega) rfl ⟨rfl, rfl, rfl, rfl, rfl⟩ d_law_1313 d_law_1314 d_law_1315 d_law_1316 d_law_1317 ?_
  refine lj_callR GR I.2.2.2.2 (ct_m_taken R.1 n (xv (i + 1)).toInt (xv (i + 2)).toInt (inR_toInt _) (inR_toInt _) e2) rfl q_1911 cq_m_taken rfl (by decide) (Nat.le_of_ble_eq_true rfl) d_law_1318 rfl (fun hr2 => ?_)
  exact lj_icmp_eq G (tgt := 1562) d_law_1321 (by decide) hr1 hr1 (fun _ => next _ _ hJ9) (fun h => absurd rfl h)
set_option maxHeartbeats 4000000 in
set_option maxRecDepth 100000 in
theorem lc_count {X : Cx} {w wR : Wd} {M N : Mm} {a b c i z : Nat} {xv : Nat → Int32} (B : BL X) (I : LIw X w wR) (R : RI X wR) (S : LwS X b z xv) (n : Nat) (hn : 70000 ≤ n) (hL : z ≤ 3072) (hi : i + 6 ≤ z) (hr : a ≤ 600000 ∧ c ≤ 7302250) (hJ : J M N) (next : ∀ M9 N9 : Mm, J M9 N9 → LJ LR (xInc X a c) w wR M9 N9 (lvL b (wa w 0) (wa wR 0) i) [] 1562) : LJ LR (xInc X a c) w wR M N (lvL b (wa w 0) (wa wR 0) i) [] 1326 := by
  obtain ⟨r, M9, N9, e1, e2, hJ9⟩ := q_count n (by omega) (xv (i + 1)).toInt hJ
  have G := gl_C B I hr
  have GR := gl_R B R hr
  refine lj_aload_n G (p9 := 1) d_law_1326 rfl rfl ?_
  refine lj_arg G (k := 1) S hL (by omega) rfl ⟨rfl, rfl, rfl, rfl, rfl⟩ d_law_1327 d_law_1328 d_law_1329 d_law_1330 d_law_1331 ?_
  refine lj_callC G I.2.2.2.2 (fun _ => trivial) (ct_W_count I.1 n (xv (i + 1)).toInt (inR_toInt _) e1) rfl q_1273 cq_W_count rfl (by decide) (Nat.le_of_ble_eq_true rfl) d_law_1332 rfl (fun hr1 => ?_)
  refine lj_aload_n G (p9 := 2) d_law_1335 rfl rfl ?_
  refine lj_arg G (k := 1) S hL (by omega) rfl ⟨rfl, rfl, rfl, rfl, rfl⟩ d_law_1336 d_law_1337 d_law_1338 d_law_1339 d_law_1340 ?_
  refine lj_callR GR I.2.2.2.2 (ct_m_count R.1 n (xv (i + 1)).toInt (inR_toInt _) e2) rfl q_1915 cq_m_count rfl (by decide) (Nat.le_of_ble_eq_true rfl) d_law_1341 rfl (fun hr2 => ?_)
  exact lj_icmp_eq G (tgt := 1562) d_law_1344 (by decide) hr1 hr1 (fun _ => next _ _ hJ9) (fun h => absurd rfl h)
set_option maxHeartbeats 4000000 in
set_option maxRecDepth 100000 in
theorem lc_tape {X : Cx} {w wR : Wd} {M N : Mm} {a b c i z : Nat} {xv : Nat → Int32} (B : BL X) (I : LIw X w wR) (R : RI X wR) (S : LwS X b z xv) (n : Nat) (hn : 70000 ≤ n) (hL : z ≤ 3072) (hi : i + 6 ≤ z) (hr : a ≤ 600000 ∧ c ≤ 7302250) (hJ : J M N) (next : ∀ M9 N9 : Mm, J M9 N9 → LJ LR (xInc X a c) w wR M9 N9 (lvL b (wa w 0) (wa wR 0) i) [] 1562) : LJ LR (xInc X a c) w wR M N (lvL b (wa w 0) (wa wR 0) i) [] 1349 := by
  obtain ⟨r, M9, N9, e1, e2, hJ9⟩ := q_tape n (by omega) (xv (i + 1)).toInt (xv (i + 2)).toInt (xv (i + 3)).toInt hJ
  have G := gl_C B I hr
  have GR := gl_R B R hr
  refine lj_aload_n G (p9 := 1) d_law_1349 rfl rfl ?_
  refine lj_arg G (k := 1) S hL (by omega) rfl ⟨rfl, rfl, rfl, rfl, rfl⟩ d_law_1350 d_law_1351 d_law_1352 d_law_1353 d_law_1354 ?_
  refine lj_arg G (k := 2) S hL (by omega) rfl ⟨rfl, rfl, rfl, rfl, rfl⟩ d_law_1355 d_law_1356 d_law_1357 d_law_1358 d_law_1359 ?_
  refine lj_arg G (k := 3) S hL (by omega) rfl ⟨rfl, rfl, rfl, rfl, rfl⟩ d_law_1360 d_law_1361 d_law_1362 d_law_1363 d_law_1364 ?_
  refine lj_callC G I.2.2.2.2 (fun _ => trivial) (ct_W_tape I.1 n (xv (i + 1)).toInt (xv (i + 2)).toInt (xv (i + 3)).toInt (inR_toInt _) (inR_toInt _) (inR_toInt _) e1) rfl q_1277 cq_W_tape rfl (by decide) (Nat.le_of_ble_eq_true rfl) d_law_1365 rfl (fun hr1 => ?_)
  refine lj_aload_n G (p9 := 2) d_law_1368 rfl rfl ?_
  refine lj_arg G (k := 1) S hL (by omega) rfl ⟨rfl, rfl, rfl, rfl, rfl⟩ d_law_1369 d_law_1370 d_law_1371 d_law_1372 d_law_1373 ?_
  refine lj_arg G (k := 2) S hL (by omega) rfl ⟨rfl, rfl, rfl, rfl, rfl⟩ d_law_1374 d_law_1375 d_law_1376 d_law_1377 d_law_1378 ?_
  refine lj_arg G (k := 3) S hL (by omega) rfl ⟨rfl, rfl, rfl, rfl, rfl⟩ d_law_1379 d_law_1380 d_law_1381 d_law_1382 d_law_1383 ?_
  refine lj_callR GR I.2.2.2.2 (ct_m_tape R.1 n (xv (i + 1)).toInt (xv (i + 2)).toInt (xv (i + 3)).toInt (inR_toInt _) (inR_toInt _) (inR_toInt _) e2) rfl q_1919 cq_m_tape rfl (by decide) (Nat.le_of_ble_eq_true rfl) d_law_1384 rfl (fun hr2 => ?_)
  exact lj_icmp_eq G (tgt := 1562) d_law_1387 (by decide) hr1 hr1 (fun _ => next _ _ hJ9) (fun h => absurd rfl h)
set_option maxHeartbeats 4000000 in
set_option maxRecDepth 100000 in
theorem lc_item {X : Cx} {w wR : Wd} {M N : Mm} {a b c i z : Nat} {xv : Nat → Int32} (B : BL X) (I : LIw X w wR) (R : RI X wR) (S : LwS X b z xv) (n : Nat) (hn : 70000 ≤ n) (hL : z ≤ 3072) (hi : i + 6 ≤ z) (hr : a ≤ 600000 ∧ c ≤ 7302250) (hJ : J M N) (next : ∀ M9 N9 : Mm, J M9 N9 → LJ LR (xInc X a c) w wR M9 N9 (lvL b (wa w 0) (wa wR 0) i) [] 1562) : LJ LR (xInc X a c) w wR M N (lvL b (wa w 0) (wa wR 0) i) [] 1392 := by
  obtain ⟨r, M9, N9, e1, e2, hJ9⟩ := q_item n (xv (i + 1)).toInt (xv (i + 2)).toInt (lor (lsh (xv (i + 3)).toInt 32) (lan (xv (i + 4)).toInt 4294967295)) (lr_or _ _) hJ
  have G := gl_C B I hr
  have GR := gl_R B R hr
  refine lj_aload_n G (p9 := 1) d_law_1392 rfl rfl ?_
  refine lj_arg G (k := 1) S hL (by omega) rfl ⟨rfl, rfl, rfl, rfl, rfl⟩ d_law_1393 d_law_1394 d_law_1395 d_law_1396 d_law_1397 ?_
  refine lj_arg G (k := 2) S hL (by omega) rfl ⟨rfl, rfl, rfl, rfl, rfl⟩ d_law_1398 d_law_1399 d_law_1400 d_law_1401 d_law_1402 ?_
  refine lj_arg G (k := 3) S hL (by omega) rfl ⟨rfl, rfl, rfl, rfl, rfl⟩ d_law_1403 d_law_1404 d_law_1405 d_law_1406 d_law_1407 ?_
  refine lj_i2l G d_law_1408 (inR_toInt _) ?_
  refine lj_bipush G (v := 32) d_law_1409 rfl ?_
  refine lj_lshl G d_law_1411 ?_
  refine lj_arg G (k := 4) S hL (by omega) rfl ⟨rfl, rfl, rfl, rfl, rfl⟩ d_law_1412 d_law_1413 d_law_1414 d_law_1415 d_law_1416 ?_
  refine lj_i2l G d_law_1417 (inR_toInt _) ?_
  refine lj_ldc2 G (v := 4294967295) d_law_1418 qn_1939 rfl ?_
  refine lj_land G d_law_1421 ?_
  refine lj_lor G d_law_1422 ?_
  refine lj_callC G I.2.2.2.2 (fun _ => trivial) (ct_W_item I.1 n (xv (i + 1)).toInt (xv (i + 2)).toInt (lor (lsh (xv (i + 3)).toInt 32) (lan (xv (i + 4)).toInt 4294967295)) (inR_toInt _) (inR_toInt _) (lr_or _ _) e1) rfl q_1284 cq_W_item rfl (by decide) (Nat.le_of_ble_eq_true rfl) d_law_1423 rfl (fun hr1 => ?_)
  refine lj_aload_n G (p9 := 2) d_law_1426 rfl rfl ?_
  refine lj_arg G (k := 1) S hL (by omega) rfl ⟨rfl, rfl, rfl, rfl, rfl⟩ d_law_1427 d_law_1428 d_law_1429 d_law_1430 d_law_1431 ?_
  refine lj_arg G (k := 2) S hL (by omega) rfl ⟨rfl, rfl, rfl, rfl, rfl⟩ d_law_1432 d_law_1433 d_law_1434 d_law_1435 d_law_1436 ?_
  refine lj_arg G (k := 3) S hL (by omega) rfl ⟨rfl, rfl, rfl, rfl, rfl⟩ d_law_1437 d_law_1438 d_law_1439 d_law_1440 d_law_1441 ?_
  refine lj_i2l G d_law_1442 (inR_toInt _) ?_
  refine lj_bipush G (v := 32) d_law_1443 rfl ?_
  refine lj_lshl G d_law_1445 ?_
  refine lj_arg G (k := 4) S hL (by omega) rfl ⟨rfl, rfl, rfl, rfl, rfl⟩ d_law_1446 d_law_1447 d_law_1448 d_law_1449 d_law_1450 ?_
  refine lj_i2l G d_law_1451 (inR_toInt _) ?_
  refine lj_ldc2 G (v := 4294967295) d_law_1452 qn_1939 rfl ?_
  refine lj_land G d_law_1455 ?_
  refine lj_lor G d_law_1456 ?_
  refine lj_callR GR I.2.2.2.2 (ct_m_item R.1 n (xv (i + 1)).toInt (xv (i + 2)).toInt (lor (lsh (xv (i + 3)).toInt 32) (lan (xv (i + 4)).toInt 4294967295)) (inR_toInt _) (inR_toInt _) (lr_or _ _) e2) rfl q_1923 cq_m_item rfl (by decide) (Nat.le_of_ble_eq_true rfl) d_law_1457 rfl (fun hr2 => ?_)
  exact lj_icmp_eq G (tgt := 1562) d_law_1460 (by decide) hr1 hr1 (fun _ => next _ _ hJ9) (fun h => absurd rfl h)
set_option maxHeartbeats 4000000 in
set_option maxRecDepth 100000 in
theorem lc_read {X : Cx} {w wR : Wd} {M N : Mm} {a b c i z : Nat} {xv : Nat → Int32} (B : BL X) (I : LIw X w wR) (R : RI X wR) (S : LwS X b z xv) (n : Nat) (hn : 70000 ≤ n) (hL : z ≤ 3072) (hi : i + 6 ≤ z) (hr : a ≤ 600000 ∧ c ≤ 7302250) (hJ : J M N) (next : ∀ M9 N9 : Mm, J M9 N9 → LJ LR (xInc X a c) w wR M9 N9 (lvL b (wa w 0) (wa wR 0) i) [] 1562) : LJ LR (xInc X a c) w wR M N (lvL b (wa w 0) (wa wR 0) i) [] 1465 := by
  obtain ⟨r, M9, N9, e1, e2, hJ9⟩ := q_read n (xv (i + 1)).toInt (xv (i + 2)).toInt hJ
  have G := gl_C B I hr
  have GR := gl_R B R hr
  refine lj_aload_n G (p9 := 1) d_law_1465 rfl rfl ?_
  refine lj_arg G (k := 1) S hL (by omega) rfl ⟨rfl, rfl, rfl, rfl, rfl⟩ d_law_1466 d_law_1467 d_law_1468 d_law_1469 d_law_1470 ?_
  refine lj_arg G (k := 2) S hL (by omega) rfl ⟨rfl, rfl, rfl, rfl, rfl⟩ d_law_1471 d_law_1472 d_law_1473 d_law_1474 d_law_1475 ?_
  refine lj_callC G I.2.2.2.2 (fun _ => trivial) (ct_W_read I.1 n (xv (i + 1)).toInt (xv (i + 2)).toInt (inR_toInt _) (inR_toInt _) e1) rfl q_1291 cq_W_read rfl (by decide) (Nat.le_of_ble_eq_true rfl) d_law_1476 rfl (fun hr1 => ?_)
  refine lj_aload_n G (p9 := 2) d_law_1479 rfl rfl ?_
  refine lj_arg G (k := 1) S hL (by omega) rfl ⟨rfl, rfl, rfl, rfl, rfl⟩ d_law_1480 d_law_1481 d_law_1482 d_law_1483 d_law_1484 ?_
  refine lj_arg G (k := 2) S hL (by omega) rfl ⟨rfl, rfl, rfl, rfl, rfl⟩ d_law_1485 d_law_1486 d_law_1487 d_law_1488 d_law_1489 ?_
  refine lj_callR GR I.2.2.2.2 (ct_m_read R.1 n (xv (i + 1)).toInt (xv (i + 2)).toInt (inR_toInt _) (inR_toInt _) e2) rfl q_1931 cq_m_read rfl (by decide) (Nat.le_of_ble_eq_true rfl) d_law_1490 rfl (fun hr2 => ?_)
  exact lj_lcmp_eq G (tgt := 1562) d_law_1493 d_law_1494 (by decide) hr1 hr1 (fun _ => next _ _ hJ9) (fun h => absurd rfl h)
set_option maxHeartbeats 4000000 in
set_option maxRecDepth 100000 in
theorem lc_shift {X : Cx} {w wR : Wd} {M N : Mm} {a b c i z : Nat} {xv : Nat → Int32} (B : BL X) (I : LIw X w wR) (R : RI X wR) (S : LwS X b z xv) (n : Nat) (hn : 70000 ≤ n) (hL : z ≤ 3072) (hi : i + 6 ≤ z) (hr : a ≤ 600000 ∧ c ≤ 7302250) (hJ : J M N) (next : ∀ M9 N9 : Mm, J M9 N9 → LJ LR (xInc X a c) w wR M9 N9 (lvL b (wa w 0) (wa wR 0) i) [] 1562) : LJ LR (xInc X a c) w wR M N (lvL b (wa w 0) (wa wR 0) i) [] 1499 := by
  obtain ⟨r, M9, N9, e1, e2, hJ9⟩ := q_shift n (by omega) (xv (i + 1)).toInt (xv (i + 2)).toInt (xv (i + 3)).toInt (xv (i + 4)).toInt (xv (i + 5)).toInt (inR_toInt _).2 hJ
  have G := gl_C B I hr
  have GR := gl_R B R hr
  refine lj_aload_n G (p9 := 1) d_law_1499 rfl rfl ?_
  refine lj_arg G (k := 1) S hL (by omega) rfl ⟨rfl, rfl, rfl, rfl, rfl⟩ d_law_1500 d_law_1501 d_law_1502 d_law_1503 d_law_1504 ?_
  refine lj_arg G (k := 2) S hL (by omega) rfl ⟨rfl, rfl, rfl, rfl, rfl⟩ d_law_1505 d_law_1506 d_law_1507 d_law_1508 d_law_1509 ?_
  refine lj_arg G (k := 3) S hL (by omega) rfl ⟨rfl, rfl, rfl, rfl, rfl⟩ d_law_1510 d_law_1511 d_law_1512 d_law_1513 d_law_1514 ?_
  refine lj_arg G (k := 4) S hL (by omega) rfl ⟨rfl, rfl, rfl, rfl, rfl⟩ d_law_1515 d_law_1516 d_law_1517 d_law_1518 d_law_1519 ?_
  refine lj_arg G (k := 5) S hL (by omega) rfl ⟨rfl, rfl, rfl, rfl, rfl⟩ d_law_1520 d_law_1521 d_law_1522 d_law_1523 d_law_1524 ?_
  refine lj_callC G I.2.2.2.2 (fun _ => trivial) (ct_W_shift I.1 n (xv (i + 1)).toInt (xv (i + 2)).toInt (xv (i + 3)).toInt (xv (i + 4)).toInt (xv (i + 5)).toInt (inR_toInt _) (inR_toInt _) (inR_toInt _) (inR_toInt _) (inR_toInt _) e1) rfl q_1295 cq_W_shift rfl (by decide) (Nat.le_of_ble_eq_true rfl) d_law_1525 rfl (fun hr1 => ?_)
  refine lj_aload_n G (p9 := 2) d_law_1528 rfl rfl ?_
  refine lj_arg G (k := 1) S hL (by omega) rfl ⟨rfl, rfl, rfl, rfl, rfl⟩ d_law_1529 d_law_1530 d_law_1531 d_law_1532 d_law_1533 ?_
  refine lj_arg G (k := 2) S hL (by omega) rfl ⟨rfl, rfl, rfl, rfl, rfl⟩ d_law_1534 d_law_1535 d_law_1536 d_law_1537 d_law_1538 ?_
  refine lj_arg G (k := 3) S hL (by omega) rfl ⟨rfl, rfl, rfl, rfl, rfl⟩ d_law_1539 d_law_1540 d_law_1541 d_law_1542 d_law_1543 ?_
  refine lj_arg G (k := 4) S hL (by omega) rfl ⟨rfl, rfl, rfl, rfl, rfl⟩ d_law_1544 d_law_1545 d_law_1546 d_law_1547 d_law_1548 ?_
  refine lj_arg G (k := 5) S hL (by omega) rfl ⟨rfl, rfl, rfl, rfl, rfl⟩ d_law_1549 d_law_1550 d_law_1551 d_law_1552 d_law_1553 ?_
  refine lj_callR GR I.2.2.2.2 (ct_m_shift R.1 n (xv (i + 1)).toInt (xv (i + 2)).toInt (xv (i + 3)).toInt (xv (i + 4)).toInt (xv (i + 5)).toInt (inR_toInt _) (inR_toInt _) (inR_toInt _) (inR_toInt _) (inR_toInt _) e2) rfl q_1935 cq_m_shift rfl (by decide) (Nat.le_of_ble_eq_true rfl) d_law_1554 rfl (fun hr2 => ?_)
  exact lj_icmp_eq G (tgt := 1562) d_law_1557 (by decide) hr1 hr1 (fun _ => next _ _ hJ9) (fun h => absurd rfl h)
