/-! Written by wip/whole/gen. Facts of the layout; rows for the fields. -/
theorem lkC_0 : lk LC 0 = (4, 6, 0) := rfl
theorem lkC_1 : lk LC 1 = (4, 7, 0) := rfl
theorem lkC_2 : lk LC 2 = (4, 8, 0) := rfl
theorem lkC_3 : lk LC 3 = (4, 9, 0) := rfl
theorem lkC_4 : lk LC 4 = (4, 10, 0) := rfl
theorem lkC_5 : lk LC 5 = (4, 11, 0) := rfl
theorem lkC_10 : lk LC 10 = (0, 21, 0) := rfl
theorem lkC_11 : lk LC 11 = (0, 30, 0) := rfl
theorem lkC_12 : lk LC 12 = (0, 30, 0) := rfl
theorem lkC_13 : lk LC 13 = (0, 6, 0) := rfl
theorem lkC_14 : lk LC 14 = (0, 6, 0) := rfl
theorem lkC_15 : lk LC 15 = (6, 6, 100) := rfl
theorem lkC_16 : lk LC 16 = (7, 16, 500) := rfl
theorem lkC_17 : lk LC 17 = (0, 16, 0) := rfl
theorem lkC_18 : lk LC 18 = (0, 16, 0) := rfl
theorem lkC_19 : lk LC 19 = (0, 7, 0) := rfl
theorem lkC_20 : lk LC 20 = (0, 16, 0) := rfl
theorem lkC_21 : lk LC 21 = (0, 40, 0) := rfl
theorem lkC_22 : lk LC 22 = (0, 40, 0) := rfl
theorem lkC_23 : lk LC 23 = (0, 40, 0) := rfl
theorem lkC_24 : lk LC 24 = (0, 40, 0) := rfl
theorem lkC_25 : lk LC 25 = (0, 40, 0) := rfl
theorem lkC_26 : lk LC 26 = (0, 40, 0) := rfl
theorem lkC_27 : lk LC 27 = (0, 160, 0) := rfl
theorem lkC_28 : lk LC 28 = (0, 160, 0) := rfl
theorem lkC_29 : lk LC 29 = (0, 160, 0) := rfl
theorem lkC_30 : lk LC 30 = (1, 100, 0) := rfl
theorem lkC_31 : lk LC 31 = (0, 20, 0) := rfl
theorem lkC_32 : lk LC 32 = (0, 20, 0) := rfl
theorem lkC_33 : lk LC 33 = (0, 20, 0) := rfl
theorem lkC_34 : lk LC 34 = (0, 120, 0) := rfl
theorem lkC_35 : lk LC 35 = (0, 120, 0) := rfl
theorem lkC_36 : lk LC 36 = (0, 120, 0) := rfl
theorem lkC_37 : lk LC 37 = (0, 2000, 0) := rfl
theorem lkC_38 : lk LC 38 = (5, 16, 110) := rfl
theorem lkC_39 : lk LC 39 = (0, 40, 0) := rfl
theorem lkC_40 : lk LC 40 = (0, 40, 0) := rfl
theorem lkC_41 : lk LC 41 = (0, 5, 0) := rfl
theorem lkC_42 : lk LC 42 = (5, 16, 130) := rfl
theorem lkC_43 : lk LC 43 = (0, 16, 0) := rfl
theorem lkC_44 : lk LC 44 = (0, 16, 0) := rfl
theorem lkC_45 : lk LC 45 = (0, 16, 0) := rfl
theorem lkC_46 : lk LC 46 = (5, 16, 150) := rfl
theorem lkC_47 : lk LC 47 = (0, 7, 0) := rfl
theorem lkC_48 : lk LC 48 = (0, 8, 0) := rfl
theorem lkC_49 : lk LC 49 = (5, 5, 170) := rfl
theorem lkC_50 : lk LC 50 = (0, 5, 0) := rfl
theorem lkC_51 : lk LC 51 = (0, 5, 0) := rfl
theorem lkC_52 : lk LC 52 = (0, 16, 0) := rfl
theorem lkC_53 : lk LC 53 = (0, 16, 0) := rfl
theorem lkC_54 : lk LC 54 = (0, 16, 0) := rfl
theorem lkC_55 : lk LC 55 = (0, 17, 0) := rfl
theorem lkC_56 : lk LC 56 = (5, 16, 180) := rfl
theorem lkC_57 : lk LC 57 = (0, 16, 0) := rfl
theorem lkC_58 : lk LC 58 = (0, 16, 0) := rfl
theorem lkC_59 : lk LC 59 = (0, 7, 0) := rfl
theorem lkC_60 : lk LC 60 = (0, 12, 0) := rfl
theorem lkC_61 : lk LC 61 = (0, 7, 0) := rfl
theorem lkC_62 : lk LC 62 = (6, 7, 200) := rfl
theorem lkC_q100 : ∀ i, i < 6 → lk LC (100 + i) = (2, 60, 0) := by decide +kernel
theorem lkC_r100 {x : Int} (h : 0 ≤ x ∧ x < 6) : lk LC (100 + x.toNat) = (2, 60, 0) := lkC_q100 _ (by omega)
theorem k9_100 {x : Int} (h : 0 ≤ x ∧ x < 6) : 100 + x.toNat < 900 := by omega
theorem kh_100 {x : Int} (h : 0 ≤ x ∧ x < 6) : 100 + x.toNat ≠ lh LC := by show 100 + x.toNat ≠ 16; omega
theorem lkC_q110 : ∀ i, i < 16 → lk LC (110 + i) = (0, 5, 0) := by decide +kernel
theorem lkC_r110 {x : Int} (h : 0 ≤ x ∧ x < 16) : lk LC (110 + x.toNat) = (0, 5, 0) := lkC_q110 _ (by omega)
theorem k9_110 {x : Int} (h : 0 ≤ x ∧ x < 16) : 110 + x.toNat < 900 := by omega
theorem kh_110 {x : Int} (h : 0 ≤ x ∧ x < 16) : 110 + x.toNat ≠ lh LC := by show 110 + x.toNat ≠ 16; omega
theorem lkC_q130 : ∀ i, i < 16 → lk LC (130 + i) = (0, 16, 0) := by decide +kernel
theorem lkC_r130 {x : Int} (h : 0 ≤ x ∧ x < 16) : lk LC (130 + x.toNat) = (0, 16, 0) := lkC_q130 _ (by omega)
theorem k9_130 {x : Int} (h : 0 ≤ x ∧ x < 16) : 130 + x.toNat < 900 := by omega
theorem kh_130 {x : Int} (h : 0 ≤ x ∧ x < 16) : 130 + x.toNat ≠ lh LC := by show 130 + x.toNat ≠ 16; omega
theorem lkC_q150 : ∀ i, i < 16 → lk LC (150 + i) = (0, 16, 0) := by decide +kernel
theorem lkC_r150 {x : Int} (h : 0 ≤ x ∧ x < 16) : lk LC (150 + x.toNat) = (0, 16, 0) := lkC_q150 _ (by omega)
theorem k9_150 {x : Int} (h : 0 ≤ x ∧ x < 16) : 150 + x.toNat < 900 := by omega
theorem kh_150 {x : Int} (h : 0 ≤ x ∧ x < 16) : 150 + x.toNat ≠ lh LC := by show 150 + x.toNat ≠ 16; omega
theorem lkC_q170 : ∀ i, i < 5 → lk LC (170 + i) = (0, 4, 0) := by decide +kernel
theorem lkC_r170 {x : Int} (h : 0 ≤ x ∧ x < 5) : lk LC (170 + x.toNat) = (0, 4, 0) := lkC_q170 _ (by omega)
theorem k9_170 {x : Int} (h : 0 ≤ x ∧ x < 5) : 170 + x.toNat < 900 := by omega
theorem kh_170 {x : Int} (h : 0 ≤ x ∧ x < 5) : 170 + x.toNat ≠ lh LC := by show 170 + x.toNat ≠ 16; omega
theorem lkC_q180 : ∀ i, i < 16 → lk LC (180 + i) = (0, 16, 0) := by decide +kernel
theorem lkC_r180 {x : Int} (h : 0 ≤ x ∧ x < 16) : lk LC (180 + x.toNat) = (0, 16, 0) := lkC_q180 _ (by omega)
theorem k9_180 {x : Int} (h : 0 ≤ x ∧ x < 16) : 180 + x.toNat < 900 := by omega
theorem kh_180 {x : Int} (h : 0 ≤ x ∧ x < 16) : 180 + x.toNat ≠ lh LC := by show 180 + x.toNat ≠ 16; omega
theorem lkC_q200 : ∀ i, i < 7 → lk LC (200 + i) = (2, 8, 0) := by decide +kernel
theorem lkC_r200 {x : Int} (h : 0 ≤ x ∧ x < 7) : lk LC (200 + x.toNat) = (2, 8, 0) := lkC_q200 _ (by omega)
theorem k9_200 {x : Int} (h : 0 ≤ x ∧ x < 7) : 200 + x.toNat < 900 := by omega
theorem kh_200 {x : Int} (h : 0 ≤ x ∧ x < 7) : 200 + x.toNat ≠ lh LC := by show 200 + x.toNat ≠ 16; omega
theorem clC_0 : (lC LC)[0]? = some ("WhoRules$Holder", T_H, 3) := rfl
theorem inC_0 : ∀ c ∈ u_ws "WhoRules$Holder" T_H 3, c ∈ ALL := by
  intro c hc
  obtain ⟨k, hk, rfl⟩ := List.mem_map.mp hc
  have hk2 := List.mem_range.mp hk
  match k, hk2 with
  | 0, _ => exact all_in (w := Cond.laysFinal "WhoRules$Holder" "WhoRules$Holder" "number" "I") 568 (by decide +kernel) rfl
  | 1, _ => exact all_in (w := Cond.laysFinal "WhoRules$Holder" "WhoRules$Holder" "family" "I") 569 (by decide +kernel) rfl
  | 2, _ => exact all_in (w := Cond.laysFinal "WhoRules$Holder" "WhoRules$Holder" "trace" "[I") 570 (by decide +kernel) rfl
  | k + 3, h => exact absurd h (by omega)
theorem clC_1 : (lC LC)[1]? = some ("WhoRules$Firm", T_Hf, 3) := rfl
theorem inC_1 : ∀ c ∈ u_ws "WhoRules$Firm" T_Hf 3, c ∈ ALL := by
  intro c hc
  obtain ⟨k, hk, rfl⟩ := List.mem_map.mp hc
  have hk2 := List.mem_range.mp hk
  match k, hk2 with
  | 0, _ => exact all_in (w := Cond.laysFinal "WhoRules$Firm" "WhoRules$Holder" "number" "I") 519 (by decide +kernel) rfl
  | 1, _ => exact all_in (w := Cond.laysFinal "WhoRules$Firm" "WhoRules$Holder" "family" "I") 521 (by decide +kernel) rfl
  | 2, _ => exact all_in (w := Cond.laysFinal "WhoRules$Firm" "WhoRules$Holder" "trace" "[I") 523 (by decide +kernel) rfl
  | k + 3, h => exact absurd h (by omega)
theorem clC_2 : (lC LC)[2]? = some ("WhoRules$Person", T_Hp, 3) := rfl
theorem inC_2 : ∀ c ∈ u_ws "WhoRules$Person" T_Hp 3, c ∈ ALL := by
  intro c hc
  obtain ⟨k, hk, rfl⟩ := List.mem_map.mp hc
  have hk2 := List.mem_range.mp hk
  match k, hk2 with
  | 0, _ => exact all_in (w := Cond.laysFinal "WhoRules$Person" "WhoRules$Holder" "number" "I") 532 (by decide +kernel) rfl
  | 1, _ => exact all_in (w := Cond.laysFinal "WhoRules$Person" "WhoRules$Holder" "family" "I") 533 (by decide +kernel) rfl
  | 2, _ => exact all_in (w := Cond.laysFinal "WhoRules$Person" "WhoRules$Holder" "trace" "[I") 534 (by decide +kernel) rfl
  | k + 3, h => exact absurd h (by omega)
theorem clC_3 : (lC LC)[3]? = some ("WhoRules$Kin", T_Hk, 3) := rfl
theorem inC_3 : ∀ c ∈ u_ws "WhoRules$Kin" T_Hk 3, c ∈ ALL := by
  intro c hc
  obtain ⟨k, hk, rfl⟩ := List.mem_map.mp hc
  have hk2 := List.mem_range.mp hk
  match k, hk2 with
  | 0, _ => exact all_in (w := Cond.laysFinal "WhoRules$Kin" "WhoRules$Holder" "number" "I") 542 (by decide +kernel) rfl
  | 1, _ => exact all_in (w := Cond.laysFinal "WhoRules$Kin" "WhoRules$Holder" "family" "I") 543 (by decide +kernel) rfl
  | 2, _ => exact all_in (w := Cond.laysFinal "WhoRules$Kin" "WhoRules$Holder" "trace" "[I") 544 (by decide +kernel) rfl
  | k + 3, h => exact absurd h (by omega)
theorem clC_4 : (lC LC)[4]? = some ("WhoRules$Fund", T_Hu, 3) := rfl
theorem inC_4 : ∀ c ∈ u_ws "WhoRules$Fund" T_Hu 3, c ∈ ALL := by
  intro c hc
  obtain ⟨k, hk, rfl⟩ := List.mem_map.mp hc
  have hk2 := List.mem_range.mp hk
  match k, hk2 with
  | 0, _ => exact all_in (w := Cond.laysFinal "WhoRules$Fund" "WhoRules$Holder" "number" "I") 552 (by decide +kernel) rfl
  | 1, _ => exact all_in (w := Cond.laysFinal "WhoRules$Fund" "WhoRules$Holder" "family" "I") 553 (by decide +kernel) rfl
  | 2, _ => exact all_in (w := Cond.laysFinal "WhoRules$Fund" "WhoRules$Holder" "trace" "[I") 554 (by decide +kernel) rfl
  | k + 3, h => exact absurd h (by omega)
theorem clC_5 : (lC LC)[5]? = some ("WhoRules$Club", T_Hc, 3) := rfl
theorem inC_5 : ∀ c ∈ u_ws "WhoRules$Club" T_Hc 3, c ∈ ALL := by
  intro c hc
  obtain ⟨k, hk, rfl⟩ := List.mem_map.mp hc
  have hk2 := List.mem_range.mp hk
  match k, hk2 with
  | 0, _ => exact all_in (w := Cond.laysFinal "WhoRules$Club" "WhoRules$Holder" "number" "I") 562 (by decide +kernel) rfl
  | 1, _ => exact all_in (w := Cond.laysFinal "WhoRules$Club" "WhoRules$Holder" "family" "I") 563 (by decide +kernel) rfl
  | 2, _ => exact all_in (w := Cond.laysFinal "WhoRules$Club" "WhoRules$Holder" "trace" "[I") 564 (by decide +kernel) rfl
  | k + 3, h => exact absurd h (by omega)
theorem clC_6 : (lC LC)[6]? = some ("WhoRules", T_W, 12) := rfl
theorem inC_6 : ∀ c ∈ u_ws "WhoRules" T_W 12, c ∈ ALL := by
  intro c hc
  obtain ⟨k, hk, rfl⟩ := List.mem_map.mp hc
  have hk2 := List.mem_range.mp hk
  match k, hk2 with
  | 0, _ => exact all_in (w := Cond.laysFinal "WhoRules" "WhoRules" "trace" "[I") 462 (by decide +kernel) rfl
  | 1, _ => exact all_in (w := Cond.laysFinal "WhoRules" "WhoRules" "register" "LWhoRules$Register;") 464 (by decide +kernel) rfl
  | 2, _ => exact all_in (w := Cond.laysFinal "WhoRules" "WhoRules" "charters" "LWhoRules$Charters;") 466 (by decide +kernel) rfl
  | 3, _ => exact all_in (w := Cond.laysFinal "WhoRules" "WhoRules" "rule" "LWhoRules$Rule;") 468 (by decide +kernel) rfl
  | 4, _ => exact all_in (w := Cond.laysFinal "WhoRules" "WhoRules" "search" "LWhoRules$Search;") 470 (by decide +kernel) rfl
  | 5, _ => exact all_in (w := Cond.laysFinal "WhoRules" "WhoRules" "flow" "LWhoRules$Flow;") 472 (by decide +kernel) rfl
  | 6, _ => exact all_in (w := Cond.laysFinal "WhoRules" "WhoRules" "motionYes" "[I") 474 (by decide +kernel) rfl
  | 7, _ => exact all_in (w := Cond.laysFinal "WhoRules" "WhoRules" "motionNo" "[I") 476 (by decide +kernel) rfl
  | 8, _ => exact all_in (w := Cond.lays "WhoRules" "WhoRules" "motionCount" "I") 478 (by decide +kernel) rfl
  | 9, _ => exact all_in (w := Cond.laysFinal "WhoRules" "WhoRules" "tapeSort" "[I") 480 (by decide +kernel) rfl
  | 10, _ => exact all_in (w := Cond.laysFinal "WhoRules" "WhoRules" "tapeSize" "[I") 482 (by decide +kernel) rfl
  | 11, _ => exact all_in (w := Cond.laysFinal "WhoRules" "WhoRules" "tapeItems" "[[J") 484 (by decide +kernel) rfl
  | k + 12, h => exact absurd h (by omega)
theorem nmC_6 : ∀ a, a < 12 → ∀ b, b < 12 → a ≠ b → (T_W a).2.1 ≠ (T_W b).2.1 := by decide +kernel
theorem toC_6 : ∀ k, k < 12 → parseFieldDescriptor (T_W k).2.2.1 = some (ty_W k) := by decide +kernel
theorem flC_6_0 : (lf LC 6)[0]? = some (1, 10) := rfl
theorem flC_6_1 : (lf LC 6)[1]? = some (1, 1) := rfl
theorem flC_6_2 : (lf LC 6)[2]? = some (1, 2) := rfl
theorem flC_6_3 : (lf LC 6)[3]? = some (1, 3) := rfl
theorem flC_6_4 : (lf LC 6)[4]? = some (1, 4) := rfl
theorem flC_6_5 : (lf LC 6)[5]? = some (1, 5) := rfl
theorem flC_6_6 : (lf LC 6)[6]? = some (1, 11) := rfl
theorem flC_6_7 : (lf LC 6)[7]? = some (1, 12) := rfl
theorem flC_6_8 : (lf LC 6)[8]? = some (0, 0) := rfl
theorem flC_6_9 : (lf LC 6)[9]? = some (1, 13) := rfl
theorem flC_6_10 : (lf LC 6)[10]? = some (1, 14) := rfl
theorem flC_6_11 : (lf LC 6)[11]? = some (1, 15) := rfl
theorem clC_7 : (lC LC)[7]? = some ("WhoRules$Register", T_R, 20) := rfl
theorem inC_7 : ∀ c ∈ u_ws "WhoRules$Register" T_R 20, c ∈ ALL := by
  intro c hc
  obtain ⟨k, hk, rfl⟩ := List.mem_map.mp hc
  have hk2 := List.mem_range.mp hk
  match k, hk2 with
  | 0, _ => exact all_in (w := Cond.lays "WhoRules$Register" "WhoRules$Register" "today" "I") 209 (by decide +kernel) rfl
  | 1, _ => exact all_in (w := Cond.lays "WhoRules$Register" "WhoRules$Register" "holderCount" "I") 211 (by decide +kernel) rfl
  | 2, _ => exact all_in (w := Cond.lays "WhoRules$Register" "WhoRules$Register" "firmCount" "I") 213 (by decide +kernel) rfl
  | 3, _ => exact all_in (w := Cond.lays "WhoRules$Register" "WhoRules$Register" "rulerCount" "I") 215 (by decide +kernel) rfl
  | 4, _ => exact all_in (w := Cond.lays "WhoRules$Register" "WhoRules$Register" "shareCount" "I") 217 (by decide +kernel) rfl
  | 5, _ => exact all_in (w := Cond.laysFinal "WhoRules$Register" "WhoRules$Register" "holders" "[LWhoRules$Holder;") 219 (by decide +kernel) rfl
  | 6, _ => exact all_in (w := Cond.laysFinal "WhoRules$Register" "WhoRules$Register" "kind" "[I") 221 (by decide +kernel) rfl
  | 7, _ => exact all_in (w := Cond.laysFinal "WhoRules$Register" "WhoRules$Register" "head" "[I") 223 (by decide +kernel) rfl
  | 8, _ => exact all_in (w := Cond.laysFinal "WhoRules$Register" "WhoRules$Register" "firms" "[I") 225 (by decide +kernel) rfl
  | 9, _ => exact all_in (w := Cond.laysFinal "WhoRules$Register" "WhoRules$Register" "rulers" "[I") 227 (by decide +kernel) rfl
  | 10, _ => exact all_in (w := Cond.laysFinal "WhoRules$Register" "WhoRules$Register" "firm" "[I") 229 (by decide +kernel) rfl
  | 11, _ => exact all_in (w := Cond.laysFinal "WhoRules$Register" "WhoRules$Register" "parts" "[I") 231 (by decide +kernel) rfl
  | 12, _ => exact all_in (w := Cond.laysFinal "WhoRules$Register" "WhoRules$Register" "votes" "[I") 233 (by decide +kernel) rfl
  | 13, _ => exact all_in (w := Cond.laysFinal "WhoRules$Register" "WhoRules$Register" "price" "[I") 235 (by decide +kernel) rfl
  | 14, _ => exact all_in (w := Cond.laysFinal "WhoRules$Register" "WhoRules$Register" "owner" "[I") 237 (by decide +kernel) rfl
  | 15, _ => exact all_in (w := Cond.laysFinal "WhoRules$Register" "WhoRules$Register" "since" "[I") 239 (by decide +kernel) rfl
  | 16, _ => exact all_in (w := Cond.lays "WhoRules$Register" "WhoRules$Register" "moveCount" "I") 241 (by decide +kernel) rfl
  | 17, _ => exact all_in (w := Cond.laysFinal "WhoRules$Register" "WhoRules$Register" "moveShare" "[I") 243 (by decide +kernel) rfl
  | 18, _ => exact all_in (w := Cond.laysFinal "WhoRules$Register" "WhoRules$Register" "moveHolder" "[I") 245 (by decide +kernel) rfl
  | 19, _ => exact all_in (w := Cond.laysFinal "WhoRules$Register" "WhoRules$Register" "moveDay" "[I") 247 (by decide +kernel) rfl
  | k + 20, h => exact absurd h (by omega)
theorem nmC_7 : ∀ a, a < 20 → ∀ b, b < 20 → a ≠ b → (T_R a).2.1 ≠ (T_R b).2.1 := by decide +kernel
theorem toC_7 : ∀ k, k < 20 → parseFieldDescriptor (T_R k).2.2.1 = some (ty_R k) := by decide +kernel
theorem flC_7_0 : (lf LC 7)[0]? = some (0, 0) := rfl
theorem flC_7_1 : (lf LC 7)[1]? = some (0, 0) := rfl
theorem flC_7_2 : (lf LC 7)[2]? = some (0, 0) := rfl
theorem flC_7_3 : (lf LC 7)[3]? = some (0, 0) := rfl
theorem flC_7_4 : (lf LC 7)[4]? = some (0, 0) := rfl
theorem flC_7_5 : (lf LC 7)[5]? = some (1, 16) := rfl
theorem flC_7_6 : (lf LC 7)[6]? = some (1, 17) := rfl
theorem flC_7_7 : (lf LC 7)[7]? = some (1, 18) := rfl
theorem flC_7_8 : (lf LC 7)[8]? = some (1, 19) := rfl
theorem flC_7_9 : (lf LC 7)[9]? = some (1, 20) := rfl
theorem flC_7_10 : (lf LC 7)[10]? = some (1, 21) := rfl
theorem flC_7_11 : (lf LC 7)[11]? = some (1, 22) := rfl
theorem flC_7_12 : (lf LC 7)[12]? = some (1, 23) := rfl
theorem flC_7_13 : (lf LC 7)[13]? = some (1, 24) := rfl
theorem flC_7_14 : (lf LC 7)[14]? = some (1, 25) := rfl
theorem flC_7_15 : (lf LC 7)[15]? = some (1, 26) := rfl
theorem flC_7_16 : (lf LC 7)[16]? = some (0, 0) := rfl
theorem flC_7_17 : (lf LC 7)[17]? = some (1, 27) := rfl
theorem flC_7_18 : (lf LC 7)[18]? = some (1, 28) := rfl
theorem flC_7_19 : (lf LC 7)[19]? = some (1, 29) := rfl
theorem clC_8 : (lC LC)[8]? = some ("WhoRules$Charters", T_C, 12) := rfl
theorem inC_8 : ∀ c ∈ u_ws "WhoRules$Charters" T_C 12, c ∈ ALL := by
  intro c hc
  obtain ⟨k, hk, rfl⟩ := List.mem_map.mp hc
  have hk2 := List.mem_range.mp hk
  match k, hk2 with
  | 0, _ => exact all_in (w := Cond.lays "WhoRules$Charters" "WhoRules$Charters" "count" "I") 271 (by decide +kernel) rfl
  | 1, _ => exact all_in (w := Cond.lays "WhoRules$Charters" "WhoRules$Charters" "length" "I") 273 (by decide +kernel) rfl
  | 2, _ => exact all_in (w := Cond.laysFinal "WhoRules$Charters" "WhoRules$Charters" "text" "[B") 275 (by decide +kernel) rfl
  | 3, _ => exact all_in (w := Cond.lays "WhoRules$Charters" "WhoRules$Charters" "at" "I") 277 (by decide +kernel) rfl
  | 4, _ => exact all_in (w := Cond.laysFinal "WhoRules$Charters" "WhoRules$Charters" "firmOf" "[I") 279 (by decide +kernel) rfl
  | 5, _ => exact all_in (w := Cond.laysFinal "WhoRules$Charters" "WhoRules$Charters" "dayOf" "[I") 281 (by decide +kernel) rfl
  | 6, _ => exact all_in (w := Cond.laysFinal "WhoRules$Charters" "WhoRules$Charters" "clauseCount" "[I") 283 (by decide +kernel) rfl
  | 7, _ => exact all_in (w := Cond.laysFinal "WhoRules$Charters" "WhoRules$Charters" "word" "[I") 285 (by decide +kernel) rfl
  | 8, _ => exact all_in (w := Cond.laysFinal "WhoRules$Charters" "WhoRules$Charters" "first" "[I") 287 (by decide +kernel) rfl
  | 9, _ => exact all_in (w := Cond.laysFinal "WhoRules$Charters" "WhoRules$Charters" "second" "[I") 289 (by decide +kernel) rfl
  | 10, _ => exact all_in (w := Cond.laysFinal "WhoRules$Charters" "WhoRules$Charters" "code" "[I") 291 (by decide +kernel) rfl
  | 11, _ => exact all_in (w := Cond.lays "WhoRules$Charters" "WhoRules$Charters" "codeEnd" "I") 293 (by decide +kernel) rfl
  | k + 12, h => exact absurd h (by omega)
theorem nmC_8 : ∀ a, a < 12 → ∀ b, b < 12 → a ≠ b → (T_C a).2.1 ≠ (T_C b).2.1 := by decide +kernel
theorem toC_8 : ∀ k, k < 12 → parseFieldDescriptor (T_C k).2.2.1 = some (ty_C k) := by decide +kernel
theorem flC_8_0 : (lf LC 8)[0]? = some (0, 0) := rfl
theorem flC_8_1 : (lf LC 8)[1]? = some (0, 0) := rfl
theorem flC_8_2 : (lf LC 8)[2]? = some (1, 30) := rfl
theorem flC_8_3 : (lf LC 8)[3]? = some (0, 0) := rfl
theorem flC_8_4 : (lf LC 8)[4]? = some (1, 31) := rfl
theorem flC_8_5 : (lf LC 8)[5]? = some (1, 32) := rfl
theorem flC_8_6 : (lf LC 8)[6]? = some (1, 33) := rfl
theorem flC_8_7 : (lf LC 8)[7]? = some (1, 34) := rfl
theorem flC_8_8 : (lf LC 8)[8]? = some (1, 35) := rfl
theorem flC_8_9 : (lf LC 8)[9]? = some (1, 36) := rfl
theorem flC_8_10 : (lf LC 8)[10]? = some (1, 37) := rfl
theorem flC_8_11 : (lf LC 8)[11]? = some (0, 0) := rfl
theorem clC_9 : (lC LC)[9]? = some ("WhoRules$Rule", T_U, 14) := rfl
theorem inC_9 : ∀ c ∈ u_ws "WhoRules$Rule" T_U 14, c ∈ ALL := by
  intro c hc
  obtain ⟨k, hk, rfl⟩ := List.mem_map.mp hc
  have hk2 := List.mem_range.mp hk
  match k, hk2 with
  | 0, _ => exact all_in (w := Cond.laysFinal "WhoRules$Rule" "WhoRules$Rule" "register" "LWhoRules$Register;") 329 (by decide +kernel) rfl
  | 1, _ => exact all_in (w := Cond.laysFinal "WhoRules$Rule" "WhoRules$Rule" "charters" "LWhoRules$Charters;") 331 (by decide +kernel) rfl
  | 2, _ => exact all_in (w := Cond.lays "WhoRules$Rule" "WhoRules$Rule" "day" "I") 333 (by decide +kernel) rfl
  | 3, _ => exact all_in (w := Cond.laysFinal "WhoRules$Rule" "WhoRules$Rule" "clause" "[[I") 335 (by decide +kernel) rfl
  | 4, _ => exact all_in (w := Cond.laysFinal "WhoRules$Rule" "WhoRules$Rule" "owner" "[I") 337 (by decide +kernel) rfl
  | 5, _ => exact all_in (w := Cond.laysFinal "WhoRules$Rule" "WhoRules$Rule" "weight" "[I") 339 (by decide +kernel) rfl
  | 6, _ => exact all_in (w := Cond.laysFinal "WhoRules$Rule" "WhoRules$Rule" "facts" "[I") 341 (by decide +kernel) rfl
  | 7, _ => exact all_in (w := Cond.laysFinal "WhoRules$Rule" "WhoRules$Rule" "votes" "[[I") 343 (by decide +kernel) rfl
  | 8, _ => exact all_in (w := Cond.laysFinal "WhoRules$Rule" "WhoRules$Rule" "gold" "[I") 345 (by decide +kernel) rfl
  | 9, _ => exact all_in (w := Cond.laysFinal "WhoRules$Rule" "WhoRules$Rule" "tooFew" "[I") 347 (by decide +kernel) rfl
  | 10, _ => exact all_in (w := Cond.laysFinal "WhoRules$Rule" "WhoRules$Rule" "block" "[I") 349 (by decide +kernel) rfl
  | 11, _ => exact all_in (w := Cond.laysFinal "WhoRules$Rule" "WhoRules$Rule" "blockVotes" "[[I") 351 (by decide +kernel) rfl
  | 12, _ => exact all_in (w := Cond.laysFinal "WhoRules$Rule" "WhoRules$Rule" "steps" "[I") 353 (by decide +kernel) rfl
  | 13, _ => exact all_in (w := Cond.lays "WhoRules$Rule" "WhoRules$Rule" "stepCount" "I") 355 (by decide +kernel) rfl
  | k + 14, h => exact absurd h (by omega)
theorem nmC_9 : ∀ a, a < 14 → ∀ b, b < 14 → a ≠ b → (T_U a).2.1 ≠ (T_U b).2.1 := by decide +kernel
theorem toC_9 : ∀ k, k < 14 → parseFieldDescriptor (T_U k).2.2.1 = some (ty_U k) := by decide +kernel
theorem flC_9_0 : (lf LC 9)[0]? = some (1, 1) := rfl
theorem flC_9_1 : (lf LC 9)[1]? = some (1, 2) := rfl
theorem flC_9_2 : (lf LC 9)[2]? = some (0, 0) := rfl
theorem flC_9_3 : (lf LC 9)[3]? = some (1, 38) := rfl
theorem flC_9_4 : (lf LC 9)[4]? = some (1, 39) := rfl
theorem flC_9_5 : (lf LC 9)[5]? = some (1, 40) := rfl
theorem flC_9_6 : (lf LC 9)[6]? = some (1, 41) := rfl
theorem flC_9_7 : (lf LC 9)[7]? = some (1, 42) := rfl
theorem flC_9_8 : (lf LC 9)[8]? = some (1, 43) := rfl
theorem flC_9_9 : (lf LC 9)[9]? = some (1, 44) := rfl
theorem flC_9_10 : (lf LC 9)[10]? = some (1, 45) := rfl
theorem flC_9_11 : (lf LC 9)[11]? = some (1, 46) := rfl
theorem flC_9_12 : (lf LC 9)[12]? = some (1, 47) := rfl
theorem flC_9_13 : (lf LC 9)[13]? = some (0, 0) := rfl
theorem clC_10 : (lC LC)[10]? = some ("WhoRules$Search", T_S, 12) := rfl
theorem inC_10 : ∀ c ∈ u_ws "WhoRules$Search" T_S 12, c ∈ ALL := by
  intro c hc
  obtain ⟨k, hk, rfl⟩ := List.mem_map.mp hc
  have hk2 := List.mem_range.mp hk
  match k, hk2 with
  | 0, _ => exact all_in (w := Cond.laysFinal "WhoRules$Search" "WhoRules$Search" "register" "LWhoRules$Register;") 377 (by decide +kernel) rfl
  | 1, _ => exact all_in (w := Cond.laysFinal "WhoRules$Search" "WhoRules$Search" "rule" "LWhoRules$Rule;") 379 (by decide +kernel) rfl
  | 2, _ => exact all_in (w := Cond.laysFinal "WhoRules$Search" "WhoRules$Search" "picked" "[I") 381 (by decide +kernel) rfl
  | 3, _ => exact all_in (w := Cond.lays "WhoRules$Search" "WhoRules$Search" "pickedCount" "I") 383 (by decide +kernel) rfl
  | 4, _ => exact all_in (w := Cond.laysFinal "WhoRules$Search" "WhoRules$Search" "carrying" "[[I") 385 (by decide +kernel) rfl
  | 5, _ => exact all_in (w := Cond.laysFinal "WhoRules$Search" "WhoRules$Search" "row" "[I") 387 (by decide +kernel) rfl
  | 6, _ => exact all_in (w := Cond.laysFinal "WhoRules$Search" "WhoRules$Search" "ruled" "[I") 389 (by decide +kernel) rfl
  | 7, _ => exact all_in (w := Cond.laysFinal "WhoRules$Search" "WhoRules$Search" "blockSum" "[I") 391 (by decide +kernel) rfl
  | 8, _ => exact all_in (w := Cond.laysFinal "WhoRules$Search" "WhoRules$Search" "before" "[I") 393 (by decide +kernel) rfl
  | 9, _ => exact all_in (w := Cond.laysFinal "WhoRules$Search" "WhoRules$Search" "other" "[I") 395 (by decide +kernel) rfl
  | 10, _ => exact all_in (w := Cond.laysFinal "WhoRules$Search" "WhoRules$Search" "rest" "[I") 397 (by decide +kernel) rfl
  | 11, _ => exact all_in (w := Cond.lays "WhoRules$Search" "WhoRules$Search" "otherCount" "I") 399 (by decide +kernel) rfl
  | k + 12, h => exact absurd h (by omega)
theorem nmC_10 : ∀ a, a < 12 → ∀ b, b < 12 → a ≠ b → (T_S a).2.1 ≠ (T_S b).2.1 := by decide +kernel
theorem toC_10 : ∀ k, k < 12 → parseFieldDescriptor (T_S k).2.2.1 = some (ty_S k) := by decide +kernel
theorem flC_10_0 : (lf LC 10)[0]? = some (1, 1) := rfl
theorem flC_10_1 : (lf LC 10)[1]? = some (1, 3) := rfl
theorem flC_10_2 : (lf LC 10)[2]? = some (1, 48) := rfl
theorem flC_10_3 : (lf LC 10)[3]? = some (0, 0) := rfl
theorem flC_10_4 : (lf LC 10)[4]? = some (1, 49) := rfl
theorem flC_10_5 : (lf LC 10)[5]? = some (1, 50) := rfl
theorem flC_10_6 : (lf LC 10)[6]? = some (1, 51) := rfl
theorem flC_10_7 : (lf LC 10)[7]? = some (1, 52) := rfl
theorem flC_10_8 : (lf LC 10)[8]? = some (1, 53) := rfl
theorem flC_10_9 : (lf LC 10)[9]? = some (1, 54) := rfl
theorem flC_10_10 : (lf LC 10)[10]? = some (1, 55) := rfl
theorem flC_10_11 : (lf LC 10)[11]? = some (0, 0) := rfl
theorem clC_11 : (lC LC)[11]? = some ("WhoRules$Flow", T_F, 10) := rfl
theorem inC_11 : ∀ c ∈ u_ws "WhoRules$Flow" T_F 10, c ∈ ALL := by
  intro c hc
  obtain ⟨k, hk, rfl⟩ := List.mem_map.mp hc
  have hk2 := List.mem_range.mp hk
  match k, hk2 with
  | 0, _ => exact all_in (w := Cond.laysFinal "WhoRules$Flow" "WhoRules$Flow" "register" "LWhoRules$Register;") 424 (by decide +kernel) rfl
  | 1, _ => exact all_in (w := Cond.laysFinal "WhoRules$Flow" "WhoRules$Flow" "parts" "[[I") 426 (by decide +kernel) rfl
  | 2, _ => exact all_in (w := Cond.laysFinal "WhoRules$Flow" "WhoRules$Flow" "unowned" "[I") 428 (by decide +kernel) rfl
  | 3, _ => exact all_in (w := Cond.laysFinal "WhoRules$Flow" "WhoRules$Flow" "has" "[I") 430 (by decide +kernel) rfl
  | 4, _ => exact all_in (w := Cond.laysFinal "WhoRules$Flow" "WhoRules$Flow" "path" "[I") 432 (by decide +kernel) rfl
  | 5, _ => exact all_in (w := Cond.laysFinal "WhoRules$Flow" "WhoRules$Flow" "cuts" "[I") 434 (by decide +kernel) rfl
  | 6, _ => exact all_in (w := Cond.laysFinal "WhoRules$Flow" "WhoRules$Flow" "order" "[I") 436 (by decide +kernel) rfl
  | 7, _ => exact all_in (w := Cond.laysFinal "WhoRules$Flow" "WhoRules$Flow" "lines" "[[J") 438 (by decide +kernel) rfl
  | 8, _ => exact all_in (w := Cond.lays "WhoRules$Flow" "WhoRules$Flow" "above" "J") 440 (by decide +kernel) rfl
  | 9, _ => exact all_in (w := Cond.lays "WhoRules$Flow" "WhoRules$Flow" "below" "J") 442 (by decide +kernel) rfl
  | k + 10, h => exact absurd h (by omega)
theorem nmC_11 : ∀ a, a < 10 → ∀ b, b < 10 → a ≠ b → (T_F a).2.1 ≠ (T_F b).2.1 := by decide +kernel
theorem toC_11 : ∀ k, k < 10 → parseFieldDescriptor (T_F k).2.2.1 = some (ty_F k) := by decide +kernel
theorem flC_11_0 : (lf LC 11)[0]? = some (1, 1) := rfl
theorem flC_11_1 : (lf LC 11)[1]? = some (1, 56) := rfl
theorem flC_11_2 : (lf LC 11)[2]? = some (1, 57) := rfl
theorem flC_11_3 : (lf LC 11)[3]? = some (1, 58) := rfl
theorem flC_11_4 : (lf LC 11)[4]? = some (1, 59) := rfl
theorem flC_11_5 : (lf LC 11)[5]? = some (1, 60) := rfl
theorem flC_11_6 : (lf LC 11)[6]? = some (1, 61) := rfl
theorem flC_11_7 : (lf LC 11)[7]? = some (1, 62) := rfl
theorem flC_11_8 : (lf LC 11)[8]? = some (2, 0) := rfl
theorem flC_11_9 : (lf LC 11)[9]? = some (2, 0) := rfl
theorem q_450 : Cond.fieldLink "WhoRules" 11 "WhoRules" "trace" "[I" ∈ ALL := all_in 450 (by decide +kernel) rfl
theorem q_451 : Cond.fieldLink "WhoRules" 18 "WhoRules" "register" "LWhoRules$Register;" ∈ ALL := all_in 451 (by decide +kernel) rfl
theorem q_452 : Cond.fieldLink "WhoRules" 25 "WhoRules" "charters" "LWhoRules$Charters;" ∈ ALL := all_in 452 (by decide +kernel) rfl
theorem q_453 : Cond.fieldLink "WhoRules" 34 "WhoRules" "rule" "LWhoRules$Rule;" ∈ ALL := all_in 453 (by decide +kernel) rfl
theorem q_454 : Cond.fieldLink "WhoRules" 43 "WhoRules" "search" "LWhoRules$Search;" ∈ ALL := all_in 454 (by decide +kernel) rfl
theorem q_455 : Cond.fieldLink "WhoRules" 52 "WhoRules" "flow" "LWhoRules$Flow;" ∈ ALL := all_in 455 (by decide +kernel) rfl
theorem q_456 : Cond.fieldLink "WhoRules" 56 "WhoRules" "motionYes" "[I" ∈ ALL := all_in 456 (by decide +kernel) rfl
theorem q_457 : Cond.fieldLink "WhoRules" 59 "WhoRules" "motionNo" "[I" ∈ ALL := all_in 457 (by decide +kernel) rfl
theorem q_459 : Cond.fieldLink "WhoRules" 62 "WhoRules" "tapeSort" "[I" ∈ ALL := all_in 459 (by decide +kernel) rfl
theorem q_460 : Cond.fieldLink "WhoRules" 65 "WhoRules" "tapeSize" "[I" ∈ ALL := all_in 460 (by decide +kernel) rfl
theorem q_461 : Cond.fieldLink "WhoRules" 70 "WhoRules" "tapeItems" "[[J" ∈ ALL := all_in 461 (by decide +kernel) rfl
theorem q_147 : Cond.fieldLink "WhoRules" 79 "WhoRules$Register" "today" "I" ∈ ALL := all_in 147 (by decide +kernel) rfl
theorem q_195 : Cond.fieldLink "WhoRules" 105 "WhoRules$Register" "price" "[I" ∈ ALL := all_in 195 (by decide +kernel) rfl
theorem q_200 : Cond.fieldLink "WhoRules" 112 "WhoRules$Register" "owner" "[I" ∈ ALL := all_in 200 (by decide +kernel) rfl
theorem q_185 : Cond.fieldLink "WhoRules" 123 "WhoRules$Register" "firm" "[I" ∈ ALL := all_in 185 (by decide +kernel) rfl
theorem q_189 : Cond.fieldLink "WhoRules" 126 "WhoRules$Register" "parts" "[I" ∈ ALL := all_in 189 (by decide +kernel) rfl
theorem q_193 : Cond.fieldLink "WhoRules" 129 "WhoRules$Register" "votes" "[I" ∈ ALL := all_in 193 (by decide +kernel) rfl
theorem q_204 : Cond.fieldLink "WhoRules" 135 "WhoRules$Register" "since" "[I" ∈ ALL := all_in 204 (by decide +kernel) rfl
theorem q_260 : Cond.fieldLink "WhoRules" 138 "WhoRules$Charters" "length" "I" ∈ ALL := all_in 260 (by decide +kernel) rfl
theorem q_258 : Cond.fieldLink "WhoRules" 145 "WhoRules$Charters" "count" "I" ∈ ALL := all_in 258 (by decide +kernel) rfl
theorem q_309 : Cond.fieldLink "WhoRules" 164 "WhoRules$Rule" "clause" "[[I" ∈ ALL := all_in 309 (by decide +kernel) rfl
theorem q_315 : Cond.fieldLink "WhoRules" 178 "WhoRules$Rule" "votes" "[[I" ∈ ALL := all_in 315 (by decide +kernel) rfl
theorem q_322 : Cond.fieldLink "WhoRules" 190 "WhoRules$Rule" "block" "[I" ∈ ALL := all_in 322 (by decide +kernel) rfl
theorem q_328 : Cond.fieldLink "WhoRules" 193 "WhoRules$Rule" "stepCount" "I" ∈ ALL := all_in 328 (by decide +kernel) rfl
theorem q_326 : Cond.fieldLink "WhoRules" 196 "WhoRules$Rule" "steps" "[I" ∈ ALL := all_in 326 (by decide +kernel) rfl
theorem q_159 : Cond.fieldLink "WhoRules" 199 "WhoRules$Register" "firmCount" "I" ∈ ALL := all_in 159 (by decide +kernel) rfl
theorem q_163 : Cond.fieldLink "WhoRules" 202 "WhoRules$Register" "rulerCount" "I" ∈ ALL := all_in 163 (by decide +kernel) rfl
theorem q_421 : Cond.fieldLink "WhoRules" 223 "WhoRules$Flow" "above" "J" ∈ ALL := all_in 421 (by decide +kernel) rfl
theorem q_423 : Cond.fieldLink "WhoRules" 227 "WhoRules$Flow" "below" "J" ∈ ALL := all_in 423 (by decide +kernel) rfl
theorem q_458 : Cond.fieldLink "WhoRules" 258 "WhoRules" "motionCount" "I" ∈ ALL := all_in 458 (by decide +kernel) rfl
theorem q_154 : Cond.fieldLink "WhoRules" 267 "WhoRules$Register" "holderCount" "I" ∈ ALL := all_in 154 (by decide +kernel) rfl
theorem q_416 : Cond.fieldLink "WhoRules" 284 "WhoRules$Flow" "path" "[I" ∈ ALL := all_in 416 (by decide +kernel) rfl
theorem q_168 : Cond.fieldLink "WhoRules" 312 "WhoRules$Register" "shareCount" "I" ∈ ALL := all_in 168 (by decide +kernel) rfl
theorem q_261 : Cond.fieldLink "WhoRules$Charters" 11 "WhoRules$Charters" "text" "[B" ∈ ALL := all_in 261 (by decide +kernel) rfl
theorem q_263 : Cond.fieldLink "WhoRules$Charters" 15 "WhoRules$Charters" "firmOf" "[I" ∈ ALL := all_in 263 (by decide +kernel) rfl
theorem q_264 : Cond.fieldLink "WhoRules$Charters" 19 "WhoRules$Charters" "dayOf" "[I" ∈ ALL := all_in 264 (by decide +kernel) rfl
theorem q_265 : Cond.fieldLink "WhoRules$Charters" 22 "WhoRules$Charters" "clauseCount" "[I" ∈ ALL := all_in 265 (by decide +kernel) rfl
theorem q_266 : Cond.fieldLink "WhoRules$Charters" 25 "WhoRules$Charters" "word" "[I" ∈ ALL := all_in 266 (by decide +kernel) rfl
theorem q_267 : Cond.fieldLink "WhoRules$Charters" 28 "WhoRules$Charters" "first" "[I" ∈ ALL := all_in 267 (by decide +kernel) rfl
theorem q_268 : Cond.fieldLink "WhoRules$Charters" 31 "WhoRules$Charters" "second" "[I" ∈ ALL := all_in 268 (by decide +kernel) rfl
theorem q_269 : Cond.fieldLink "WhoRules$Charters" 34 "WhoRules$Charters" "code" "[I" ∈ ALL := all_in 269 (by decide +kernel) rfl
theorem q_259 : Cond.fieldLink "WhoRules$Charters" 37 "WhoRules$Charters" "length" "I" ∈ ALL := all_in 259 (by decide +kernel) rfl
theorem q_262 : Cond.fieldLink "WhoRules$Charters" 41 "WhoRules$Charters" "at" "I" ∈ ALL := all_in 262 (by decide +kernel) rfl
theorem q_257 : Cond.fieldLink "WhoRules$Charters" 44 "WhoRules$Charters" "count" "I" ∈ ALL := all_in 257 (by decide +kernel) rfl
theorem q_270 : Cond.fieldLink "WhoRules$Charters" 47 "WhoRules$Charters" "codeEnd" "I" ∈ ALL := all_in 270 (by decide +kernel) rfl
theorem q_412 : Cond.fieldLink "WhoRules$Flow" 11 "WhoRules$Flow" "parts" "[[I" ∈ ALL := all_in 412 (by decide +kernel) rfl
theorem q_413 : Cond.fieldLink "WhoRules$Flow" 16 "WhoRules$Flow" "unowned" "[I" ∈ ALL := all_in 413 (by decide +kernel) rfl
theorem q_414 : Cond.fieldLink "WhoRules$Flow" 20 "WhoRules$Flow" "has" "[I" ∈ ALL := all_in 414 (by decide +kernel) rfl
theorem q_415 : Cond.fieldLink "WhoRules$Flow" 23 "WhoRules$Flow" "path" "[I" ∈ ALL := all_in 415 (by decide +kernel) rfl
theorem q_417 : Cond.fieldLink "WhoRules$Flow" 26 "WhoRules$Flow" "cuts" "[I" ∈ ALL := all_in 417 (by decide +kernel) rfl
theorem q_418 : Cond.fieldLink "WhoRules$Flow" 29 "WhoRules$Flow" "order" "[I" ∈ ALL := all_in 418 (by decide +kernel) rfl
theorem q_419 : Cond.fieldLink "WhoRules$Flow" 34 "WhoRules$Flow" "lines" "[[J" ∈ ALL := all_in 419 (by decide +kernel) rfl
theorem q_411 : Cond.fieldLink "WhoRules$Flow" 37 "WhoRules$Flow" "register" "LWhoRules$Register;" ∈ ALL := all_in 411 (by decide +kernel) rfl
theorem q_146 : Cond.fieldLink "WhoRules$Flow" 41 "WhoRules$Register" "today" "I" ∈ ALL := all_in 146 (by decide +kernel) rfl
theorem q_157 : Cond.fieldLink "WhoRules$Flow" 51 "WhoRules$Register" "firmCount" "I" ∈ ALL := all_in 157 (by decide +kernel) rfl
theorem q_177 : Cond.fieldLink "WhoRules$Flow" 54 "WhoRules$Register" "firms" "[I" ∈ ALL := all_in 177 (by decide +kernel) rfl
theorem q_164 : Cond.fieldLink "WhoRules$Flow" 63 "WhoRules$Register" "shareCount" "I" ∈ ALL := all_in 164 (by decide +kernel) rfl
theorem q_198 : Cond.fieldLink "WhoRules$Flow" 66 "WhoRules$Register" "owner" "[I" ∈ ALL := all_in 198 (by decide +kernel) rfl
theorem q_183 : Cond.fieldLink "WhoRules$Flow" 69 "WhoRules$Register" "firm" "[I" ∈ ALL := all_in 183 (by decide +kernel) rfl
theorem q_187 : Cond.fieldLink "WhoRules$Flow" 72 "WhoRules$Register" "parts" "[I" ∈ ALL := all_in 187 (by decide +kernel) rfl
theorem q_151 : Cond.fieldLink "WhoRules$Flow" 85 "WhoRules$Register" "holderCount" "I" ∈ ALL := all_in 151 (by decide +kernel) rfl
theorem q_420 : Cond.fieldLink "WhoRules$Flow" 92 "WhoRules$Flow" "above" "J" ∈ ALL := all_in 420 (by decide +kernel) rfl
theorem q_422 : Cond.fieldLink "WhoRules$Flow" 96 "WhoRules$Flow" "below" "J" ∈ ALL := all_in 422 (by decide +kernel) rfl
theorem q_170 : Cond.fieldLink "WhoRules$Register" 17 "WhoRules$Register" "kind" "[I" ∈ ALL := all_in 170 (by decide +kernel) rfl
theorem q_173 : Cond.fieldLink "WhoRules$Register" 21 "WhoRules$Register" "head" "[I" ∈ ALL := all_in 173 (by decide +kernel) rfl
theorem q_182 : Cond.fieldLink "WhoRules$Register" 30 "WhoRules$Register" "firm" "[I" ∈ ALL := all_in 182 (by decide +kernel) rfl
theorem q_186 : Cond.fieldLink "WhoRules$Register" 33 "WhoRules$Register" "parts" "[I" ∈ ALL := all_in 186 (by decide +kernel) rfl
theorem q_191 : Cond.fieldLink "WhoRules$Register" 36 "WhoRules$Register" "votes" "[I" ∈ ALL := all_in 191 (by decide +kernel) rfl
theorem q_194 : Cond.fieldLink "WhoRules$Register" 39 "WhoRules$Register" "price" "[I" ∈ ALL := all_in 194 (by decide +kernel) rfl
theorem q_197 : Cond.fieldLink "WhoRules$Register" 42 "WhoRules$Register" "owner" "[I" ∈ ALL := all_in 197 (by decide +kernel) rfl
theorem q_202 : Cond.fieldLink "WhoRules$Register" 45 "WhoRules$Register" "since" "[I" ∈ ALL := all_in 202 (by decide +kernel) rfl
theorem q_206 : Cond.fieldLink "WhoRules$Register" 48 "WhoRules$Register" "moveShare" "[I" ∈ ALL := all_in 206 (by decide +kernel) rfl
theorem q_207 : Cond.fieldLink "WhoRules$Register" 51 "WhoRules$Register" "moveHolder" "[I" ∈ ALL := all_in 207 (by decide +kernel) rfl
theorem q_208 : Cond.fieldLink "WhoRules$Register" 54 "WhoRules$Register" "moveDay" "[I" ∈ ALL := all_in 208 (by decide +kernel) rfl
theorem q_150 : Cond.fieldLink "WhoRules$Register" 57 "WhoRules$Register" "holderCount" "I" ∈ ALL := all_in 150 (by decide +kernel) rfl
theorem q_166 : Cond.fieldLink "WhoRules$Register" 68 "WhoRules$Register" "shareCount" "I" ∈ ALL := all_in 166 (by decide +kernel) rfl
theorem q_205 : Cond.fieldLink "WhoRules$Register" 115 "WhoRules$Register" "moveCount" "I" ∈ ALL := all_in 205 (by decide +kernel) rfl
theorem q_149 : Cond.fieldLink "WhoRules$Register" 118 "WhoRules$Register" "today" "I" ∈ ALL := all_in 149 (by decide +kernel) rfl
theorem q_308 : Cond.fieldLink "WhoRules$Rule" 11 "WhoRules$Rule" "clause" "[[I" ∈ ALL := all_in 308 (by decide +kernel) rfl
theorem q_310 : Cond.fieldLink "WhoRules$Rule" 16 "WhoRules$Rule" "owner" "[I" ∈ ALL := all_in 310 (by decide +kernel) rfl
theorem q_311 : Cond.fieldLink "WhoRules$Rule" 20 "WhoRules$Rule" "weight" "[I" ∈ ALL := all_in 311 (by decide +kernel) rfl
theorem q_312 : Cond.fieldLink "WhoRules$Rule" 25 "WhoRules$Rule" "facts" "[I" ∈ ALL := all_in 312 (by decide +kernel) rfl
theorem q_313 : Cond.fieldLink "WhoRules$Rule" 28 "WhoRules$Rule" "votes" "[[I" ∈ ALL := all_in 313 (by decide +kernel) rfl
theorem q_316 : Cond.fieldLink "WhoRules$Rule" 31 "WhoRules$Rule" "gold" "[I" ∈ ALL := all_in 316 (by decide +kernel) rfl
theorem q_318 : Cond.fieldLink "WhoRules$Rule" 34 "WhoRules$Rule" "tooFew" "[I" ∈ ALL := all_in 318 (by decide +kernel) rfl
theorem q_320 : Cond.fieldLink "WhoRules$Rule" 37 "WhoRules$Rule" "block" "[I" ∈ ALL := all_in 320 (by decide +kernel) rfl
theorem q_323 : Cond.fieldLink "WhoRules$Rule" 40 "WhoRules$Rule" "blockVotes" "[[I" ∈ ALL := all_in 323 (by decide +kernel) rfl
theorem q_325 : Cond.fieldLink "WhoRules$Rule" 43 "WhoRules$Rule" "steps" "[I" ∈ ALL := all_in 325 (by decide +kernel) rfl
theorem q_305 : Cond.fieldLink "WhoRules$Rule" 46 "WhoRules$Rule" "register" "LWhoRules$Register;" ∈ ALL := all_in 305 (by decide +kernel) rfl
theorem q_306 : Cond.fieldLink "WhoRules$Rule" 50 "WhoRules$Rule" "charters" "LWhoRules$Charters;" ∈ ALL := all_in 306 (by decide +kernel) rfl
theorem q_307 : Cond.fieldLink "WhoRules$Rule" 54 "WhoRules$Rule" "day" "I" ∈ ALL := all_in 307 (by decide +kernel) rfl
theorem q_155 : Cond.fieldLink "WhoRules$Rule" 58 "WhoRules$Register" "firmCount" "I" ∈ ALL := all_in 155 (by decide +kernel) rfl
theorem q_176 : Cond.fieldLink "WhoRules$Rule" 63 "WhoRules$Register" "firms" "[I" ∈ ALL := all_in 176 (by decide +kernel) rfl
theorem q_165 : Cond.fieldLink "WhoRules$Rule" 82 "WhoRules$Register" "shareCount" "I" ∈ ALL := all_in 165 (by decide +kernel) rfl
theorem q_199 : Cond.fieldLink "WhoRules$Rule" 88 "WhoRules$Register" "owner" "[I" ∈ ALL := all_in 199 (by decide +kernel) rfl
theorem q_203 : Cond.fieldLink "WhoRules$Rule" 89 "WhoRules$Register" "since" "[I" ∈ ALL := all_in 203 (by decide +kernel) rfl
theorem q_184 : Cond.fieldLink "WhoRules$Rule" 95 "WhoRules$Register" "firm" "[I" ∈ ALL := all_in 184 (by decide +kernel) rfl
theorem q_192 : Cond.fieldLink "WhoRules$Rule" 105 "WhoRules$Register" "votes" "[I" ∈ ALL := all_in 192 (by decide +kernel) rfl
theorem q_171 : Cond.fieldLink "WhoRules$Rule" 110 "WhoRules$Register" "kind" "[I" ∈ ALL := all_in 171 (by decide +kernel) rfl
theorem q_188 : Cond.fieldLink "WhoRules$Rule" 113 "WhoRules$Register" "parts" "[I" ∈ ALL := all_in 188 (by decide +kernel) rfl
theorem q_152 : Cond.fieldLink "WhoRules$Rule" 129 "WhoRules$Register" "holderCount" "I" ∈ ALL := all_in 152 (by decide +kernel) rfl
theorem q_327 : Cond.fieldLink "WhoRules$Rule" 137 "WhoRules$Rule" "stepCount" "I" ∈ ALL := all_in 327 (by decide +kernel) rfl
theorem q_174 : Cond.fieldLink "WhoRules$Rule" 143 "WhoRules$Register" "head" "[I" ∈ ALL := all_in 174 (by decide +kernel) rfl
theorem q_162 : Cond.fieldLink "WhoRules$Rule" 171 "WhoRules$Register" "rulerCount" "I" ∈ ALL := all_in 162 (by decide +kernel) rfl
theorem q_181 : Cond.fieldLink "WhoRules$Rule" 174 "WhoRules$Register" "rulers" "[I" ∈ ALL := all_in 181 (by decide +kernel) rfl
theorem q_367 : Cond.fieldLink "WhoRules$Search" 11 "WhoRules$Search" "picked" "[I" ∈ ALL := all_in 367 (by decide +kernel) rfl
theorem q_369 : Cond.fieldLink "WhoRules$Search" 17 "WhoRules$Search" "carrying" "[[I" ∈ ALL := all_in 369 (by decide +kernel) rfl
theorem q_370 : Cond.fieldLink "WhoRules$Search" 20 "WhoRules$Search" "row" "[I" ∈ ALL := all_in 370 (by decide +kernel) rfl
theorem q_371 : Cond.fieldLink "WhoRules$Search" 23 "WhoRules$Search" "ruled" "[I" ∈ ALL := all_in 371 (by decide +kernel) rfl
theorem q_372 : Cond.fieldLink "WhoRules$Search" 26 "WhoRules$Search" "blockSum" "[I" ∈ ALL := all_in 372 (by decide +kernel) rfl
theorem q_373 : Cond.fieldLink "WhoRules$Search" 29 "WhoRules$Search" "before" "[I" ∈ ALL := all_in 373 (by decide +kernel) rfl
theorem q_374 : Cond.fieldLink "WhoRules$Search" 32 "WhoRules$Search" "other" "[I" ∈ ALL := all_in 374 (by decide +kernel) rfl
theorem q_375 : Cond.fieldLink "WhoRules$Search" 35 "WhoRules$Search" "rest" "[I" ∈ ALL := all_in 375 (by decide +kernel) rfl
theorem q_365 : Cond.fieldLink "WhoRules$Search" 38 "WhoRules$Search" "register" "LWhoRules$Register;" ∈ ALL := all_in 365 (by decide +kernel) rfl
theorem q_366 : Cond.fieldLink "WhoRules$Search" 42 "WhoRules$Search" "rule" "LWhoRules$Rule;" ∈ ALL := all_in 366 (by decide +kernel) rfl
theorem q_156 : Cond.fieldLink "WhoRules$Search" 49 "WhoRules$Register" "firmCount" "I" ∈ ALL := all_in 156 (by decide +kernel) rfl
theorem q_160 : Cond.fieldLink "WhoRules$Search" 55 "WhoRules$Register" "rulerCount" "I" ∈ ALL := all_in 160 (by decide +kernel) rfl
theorem q_178 : Cond.fieldLink "WhoRules$Search" 78 "WhoRules$Register" "firms" "[I" ∈ ALL := all_in 178 (by decide +kernel) rfl
theorem q_180 : Cond.fieldLink "WhoRules$Search" 81 "WhoRules$Register" "rulers" "[I" ∈ ALL := all_in 180 (by decide +kernel) rfl
theorem q_317 : Cond.fieldLink "WhoRules$Search" 88 "WhoRules$Rule" "gold" "[I" ∈ ALL := all_in 317 (by decide +kernel) rfl
theorem q_321 : Cond.fieldLink "WhoRules$Search" 91 "WhoRules$Rule" "block" "[I" ∈ ALL := all_in 321 (by decide +kernel) rfl
theorem q_324 : Cond.fieldLink "WhoRules$Search" 94 "WhoRules$Rule" "blockVotes" "[[I" ∈ ALL := all_in 324 (by decide +kernel) rfl
theorem q_314 : Cond.fieldLink "WhoRules$Search" 97 "WhoRules$Rule" "votes" "[[I" ∈ ALL := all_in 314 (by decide +kernel) rfl
theorem q_319 : Cond.fieldLink "WhoRules$Search" 100 "WhoRules$Rule" "tooFew" "[I" ∈ ALL := all_in 319 (by decide +kernel) rfl
theorem q_148 : Cond.fieldLink "WhoRules$Search" 122 "WhoRules$Register" "today" "I" ∈ ALL := all_in 148 (by decide +kernel) rfl
theorem q_376 : Cond.fieldLink "WhoRules$Search" 140 "WhoRules$Search" "otherCount" "I" ∈ ALL := all_in 376 (by decide +kernel) rfl
theorem q_153 : Cond.fieldLink "WhoRules$Search" 147 "WhoRules$Register" "holderCount" "I" ∈ ALL := all_in 153 (by decide +kernel) rfl
theorem q_368 : Cond.fieldLink "WhoRules$Search" 154 "WhoRules$Search" "pickedCount" "I" ∈ ALL := all_in 368 (by decide +kernel) rfl
theorem q_167 : Cond.fieldLink "WhoRules$Search" 176 "WhoRules$Register" "shareCount" "I" ∈ ALL := all_in 167 (by decide +kernel) rfl
theorem q_196 : Cond.fieldLink "WhoRules$Search" 179 "WhoRules$Register" "price" "[I" ∈ ALL := all_in 196 (by decide +kernel) rfl
theorem q_201 : Cond.fieldLink "WhoRules$Search" 182 "WhoRules$Register" "owner" "[I" ∈ ALL := all_in 201 (by decide +kernel) rfl
theorem q_190 : Cond.fieldLink "WhoRules$Search" 203 "WhoRules$Register" "parts" "[I" ∈ ALL := all_in 190 (by decide +kernel) rfl
theorem gfC_W_11 {w : Wd} {X : Cx} {cc : ByteArray} {nL fr lo t pc : Nat} {r : Int} {M1 M : Mm} {lv : List (Nat × Value)} {st : List Value} (G : Gc LC w X "WhoRules" cc nL fr lo) (hdg : decode cc pc = .ok (.getfield 11, 3)) (kk : VJ LC w X nL t r M1 M lv (.ref (wa w 10) :: st) (pc + 3)) : VJ LC w X nL t r M1 M lv (.ref (wa w 0) :: st) pc := vj_getf G lkC_0 clC_6 inC_6 (j := 0) (by decide) q_450 rfl (fvs_get flC_6_0) hdg kk
theorem gfC_W_18 {w : Wd} {X : Cx} {cc : ByteArray} {nL fr lo t pc : Nat} {r : Int} {M1 M : Mm} {lv : List (Nat × Value)} {st : List Value} (G : Gc LC w X "WhoRules" cc nL fr lo) (hdg : decode cc pc = .ok (.getfield 18, 3)) (kk : VJ LC w X nL t r M1 M lv (.ref (wa w 1) :: st) (pc + 3)) : VJ LC w X nL t r M1 M lv (.ref (wa w 0) :: st) pc := vj_getf G lkC_0 clC_6 inC_6 (j := 1) (by decide) q_451 rfl (fvs_get flC_6_1) hdg kk
theorem gfC_W_25 {w : Wd} {X : Cx} {cc : ByteArray} {nL fr lo t pc : Nat} {r : Int} {M1 M : Mm} {lv : List (Nat × Value)} {st : List Value} (G : Gc LC w X "WhoRules" cc nL fr lo) (hdg : decode cc pc = .ok (.getfield 25, 3)) (kk : VJ LC w X nL t r M1 M lv (.ref (wa w 2) :: st) (pc + 3)) : VJ LC w X nL t r M1 M lv (.ref (wa w 0) :: st) pc := vj_getf G lkC_0 clC_6 inC_6 (j := 2) (by decide) q_452 rfl (fvs_get flC_6_2) hdg kk
theorem gfC_W_34 {w : Wd} {X : Cx} {cc : ByteArray} {nL fr lo t pc : Nat} {r : Int} {M1 M : Mm} {lv : List (Nat × Value)} {st : List Value} (G : Gc LC w X "WhoRules" cc nL fr lo) (hdg : decode cc pc = .ok (.getfield 34, 3)) (kk : VJ LC w X nL t r M1 M lv (.ref (wa w 3) :: st) (pc + 3)) : VJ LC w X nL t r M1 M lv (.ref (wa w 0) :: st) pc := vj_getf G lkC_0 clC_6 inC_6 (j := 3) (by decide) q_453 rfl (fvs_get flC_6_3) hdg kk
theorem gfC_W_43 {w : Wd} {X : Cx} {cc : ByteArray} {nL fr lo t pc : Nat} {r : Int} {M1 M : Mm} {lv : List (Nat × Value)} {st : List Value} (G : Gc LC w X "WhoRules" cc nL fr lo) (hdg : decode cc pc = .ok (.getfield 43, 3)) (kk : VJ LC w X nL t r M1 M lv (.ref (wa w 4) :: st) (pc + 3)) : VJ LC w X nL t r M1 M lv (.ref (wa w 0) :: st) pc := vj_getf G lkC_0 clC_6 inC_6 (j := 4) (by decide) q_454 rfl (fvs_get flC_6_4) hdg kk
theorem gfC_W_52 {w : Wd} {X : Cx} {cc : ByteArray} {nL fr lo t pc : Nat} {r : Int} {M1 M : Mm} {lv : List (Nat × Value)} {st : List Value} (G : Gc LC w X "WhoRules" cc nL fr lo) (hdg : decode cc pc = .ok (.getfield 52, 3)) (kk : VJ LC w X nL t r M1 M lv (.ref (wa w 5) :: st) (pc + 3)) : VJ LC w X nL t r M1 M lv (.ref (wa w 0) :: st) pc := vj_getf G lkC_0 clC_6 inC_6 (j := 5) (by decide) q_455 rfl (fvs_get flC_6_5) hdg kk
theorem gfC_W_56 {w : Wd} {X : Cx} {cc : ByteArray} {nL fr lo t pc : Nat} {r : Int} {M1 M : Mm} {lv : List (Nat × Value)} {st : List Value} (G : Gc LC w X "WhoRules" cc nL fr lo) (hdg : decode cc pc = .ok (.getfield 56, 3)) (kk : VJ LC w X nL t r M1 M lv (.ref (wa w 11) :: st) (pc + 3)) : VJ LC w X nL t r M1 M lv (.ref (wa w 0) :: st) pc := vj_getf G lkC_0 clC_6 inC_6 (j := 6) (by decide) q_456 rfl (fvs_get flC_6_6) hdg kk
theorem gfC_W_59 {w : Wd} {X : Cx} {cc : ByteArray} {nL fr lo t pc : Nat} {r : Int} {M1 M : Mm} {lv : List (Nat × Value)} {st : List Value} (G : Gc LC w X "WhoRules" cc nL fr lo) (hdg : decode cc pc = .ok (.getfield 59, 3)) (kk : VJ LC w X nL t r M1 M lv (.ref (wa w 12) :: st) (pc + 3)) : VJ LC w X nL t r M1 M lv (.ref (wa w 0) :: st) pc := vj_getf G lkC_0 clC_6 inC_6 (j := 7) (by decide) q_457 rfl (fvs_get flC_6_7) hdg kk
theorem gfC_W_62 {w : Wd} {X : Cx} {cc : ByteArray} {nL fr lo t pc : Nat} {r : Int} {M1 M : Mm} {lv : List (Nat × Value)} {st : List Value} (G : Gc LC w X "WhoRules" cc nL fr lo) (hdg : decode cc pc = .ok (.getfield 62, 3)) (kk : VJ LC w X nL t r M1 M lv (.ref (wa w 13) :: st) (pc + 3)) : VJ LC w X nL t r M1 M lv (.ref (wa w 0) :: st) pc := vj_getf G lkC_0 clC_6 inC_6 (j := 9) (by decide) q_459 rfl (fvs_get flC_6_9) hdg kk
theorem gfC_W_65 {w : Wd} {X : Cx} {cc : ByteArray} {nL fr lo t pc : Nat} {r : Int} {M1 M : Mm} {lv : List (Nat × Value)} {st : List Value} (G : Gc LC w X "WhoRules" cc nL fr lo) (hdg : decode cc pc = .ok (.getfield 65, 3)) (kk : VJ LC w X nL t r M1 M lv (.ref (wa w 14) :: st) (pc + 3)) : VJ LC w X nL t r M1 M lv (.ref (wa w 0) :: st) pc := vj_getf G lkC_0 clC_6 inC_6 (j := 10) (by decide) q_460 rfl (fvs_get flC_6_10) hdg kk
theorem gfC_W_70 {w : Wd} {X : Cx} {cc : ByteArray} {nL fr lo t pc : Nat} {r : Int} {M1 M : Mm} {lv : List (Nat × Value)} {st : List Value} (G : Gc LC w X "WhoRules" cc nL fr lo) (hdg : decode cc pc = .ok (.getfield 70, 3)) (kk : VJ LC w X nL t r M1 M lv (.ref (wa w 15) :: st) (pc + 3)) : VJ LC w X nL t r M1 M lv (.ref (wa w 0) :: st) pc := vj_getf G lkC_0 clC_6 inC_6 (j := 11) (by decide) q_461 rfl (fvs_get flC_6_11) hdg kk
theorem gfC_W_79 {w : Wd} {X : Cx} {cc : ByteArray} {nL fr lo t pc : Nat} {r : Int} {M1 M : Mm} {lv : List (Nat × Value)} {st : List Value} (G : Gc LC w X "WhoRules" cc nL fr lo) (hdg : decode cc pc = .ok (.getfield 79, 3)) (kk : VJ LC w X nL t r M1 M lv (.int (i32 (M 1 0)) :: st) (pc + 3)) : VJ LC w X nL t r M1 M lv (.ref (wa w 1) :: st) pc := vj_getf G lkC_1 clC_7 inC_7 (j := 0) (by decide) q_147 rfl (fvs_get flC_7_0) hdg kk
theorem gfC_W_105 {w : Wd} {X : Cx} {cc : ByteArray} {nL fr lo t pc : Nat} {r : Int} {M1 M : Mm} {lv : List (Nat × Value)} {st : List Value} (G : Gc LC w X "WhoRules" cc nL fr lo) (hdg : decode cc pc = .ok (.getfield 105, 3)) (kk : VJ LC w X nL t r M1 M lv (.ref (wa w 24) :: st) (pc + 3)) : VJ LC w X nL t r M1 M lv (.ref (wa w 1) :: st) pc := vj_getf G lkC_1 clC_7 inC_7 (j := 13) (by decide) q_195 rfl (fvs_get flC_7_13) hdg kk
theorem gfC_W_112 {w : Wd} {X : Cx} {cc : ByteArray} {nL fr lo t pc : Nat} {r : Int} {M1 M : Mm} {lv : List (Nat × Value)} {st : List Value} (G : Gc LC w X "WhoRules" cc nL fr lo) (hdg : decode cc pc = .ok (.getfield 112, 3)) (kk : VJ LC w X nL t r M1 M lv (.ref (wa w 25) :: st) (pc + 3)) : VJ LC w X nL t r M1 M lv (.ref (wa w 1) :: st) pc := vj_getf G lkC_1 clC_7 inC_7 (j := 14) (by decide) q_200 rfl (fvs_get flC_7_14) hdg kk
theorem gfC_W_123 {w : Wd} {X : Cx} {cc : ByteArray} {nL fr lo t pc : Nat} {r : Int} {M1 M : Mm} {lv : List (Nat × Value)} {st : List Value} (G : Gc LC w X "WhoRules" cc nL fr lo) (hdg : decode cc pc = .ok (.getfield 123, 3)) (kk : VJ LC w X nL t r M1 M lv (.ref (wa w 21) :: st) (pc + 3)) : VJ LC w X nL t r M1 M lv (.ref (wa w 1) :: st) pc := vj_getf G lkC_1 clC_7 inC_7 (j := 10) (by decide) q_185 rfl (fvs_get flC_7_10) hdg kk
theorem gfC_W_126 {w : Wd} {X : Cx} {cc : ByteArray} {nL fr lo t pc : Nat} {r : Int} {M1 M : Mm} {lv : List (Nat × Value)} {st : List Value} (G : Gc LC w X "WhoRules" cc nL fr lo) (hdg : decode cc pc = .ok (.getfield 126, 3)) (kk : VJ LC w X nL t r M1 M lv (.ref (wa w 22) :: st) (pc + 3)) : VJ LC w X nL t r M1 M lv (.ref (wa w 1) :: st) pc := vj_getf G lkC_1 clC_7 inC_7 (j := 11) (by decide) q_189 rfl (fvs_get flC_7_11) hdg kk
theorem gfC_W_129 {w : Wd} {X : Cx} {cc : ByteArray} {nL fr lo t pc : Nat} {r : Int} {M1 M : Mm} {lv : List (Nat × Value)} {st : List Value} (G : Gc LC w X "WhoRules" cc nL fr lo) (hdg : decode cc pc = .ok (.getfield 129, 3)) (kk : VJ LC w X nL t r M1 M lv (.ref (wa w 23) :: st) (pc + 3)) : VJ LC w X nL t r M1 M lv (.ref (wa w 1) :: st) pc := vj_getf G lkC_1 clC_7 inC_7 (j := 12) (by decide) q_193 rfl (fvs_get flC_7_12) hdg kk
theorem gfC_W_135 {w : Wd} {X : Cx} {cc : ByteArray} {nL fr lo t pc : Nat} {r : Int} {M1 M : Mm} {lv : List (Nat × Value)} {st : List Value} (G : Gc LC w X "WhoRules" cc nL fr lo) (hdg : decode cc pc = .ok (.getfield 135, 3)) (kk : VJ LC w X nL t r M1 M lv (.ref (wa w 26) :: st) (pc + 3)) : VJ LC w X nL t r M1 M lv (.ref (wa w 1) :: st) pc := vj_getf G lkC_1 clC_7 inC_7 (j := 15) (by decide) q_204 rfl (fvs_get flC_7_15) hdg kk
theorem gfC_W_138 {w : Wd} {X : Cx} {cc : ByteArray} {nL fr lo t pc : Nat} {r : Int} {M1 M : Mm} {lv : List (Nat × Value)} {st : List Value} (G : Gc LC w X "WhoRules" cc nL fr lo) (hdg : decode cc pc = .ok (.getfield 138, 3)) (kk : VJ LC w X nL t r M1 M lv (.int (i32 (M 2 1)) :: st) (pc + 3)) : VJ LC w X nL t r M1 M lv (.ref (wa w 2) :: st) pc := vj_getf G lkC_2 clC_8 inC_8 (j := 1) (by decide) q_260 rfl (fvs_get flC_8_1) hdg kk
theorem gfC_W_145 {w : Wd} {X : Cx} {cc : ByteArray} {nL fr lo t pc : Nat} {r : Int} {M1 M : Mm} {lv : List (Nat × Value)} {st : List Value} (G : Gc LC w X "WhoRules" cc nL fr lo) (hdg : decode cc pc = .ok (.getfield 145, 3)) (kk : VJ LC w X nL t r M1 M lv (.int (i32 (M 2 0)) :: st) (pc + 3)) : VJ LC w X nL t r M1 M lv (.ref (wa w 2) :: st) pc := vj_getf G lkC_2 clC_8 inC_8 (j := 0) (by decide) q_258 rfl (fvs_get flC_8_0) hdg kk
theorem gfC_W_164 {w : Wd} {X : Cx} {cc : ByteArray} {nL fr lo t pc : Nat} {r : Int} {M1 M : Mm} {lv : List (Nat × Value)} {st : List Value} (G : Gc LC w X "WhoRules" cc nL fr lo) (hdg : decode cc pc = .ok (.getfield 164, 3)) (kk : VJ LC w X nL t r M1 M lv (.ref (wa w 38) :: st) (pc + 3)) : VJ LC w X nL t r M1 M lv (.ref (wa w 3) :: st) pc := vj_getf G lkC_3 clC_9 inC_9 (j := 3) (by decide) q_309 rfl (fvs_get flC_9_3) hdg kk
theorem gfC_W_178 {w : Wd} {X : Cx} {cc : ByteArray} {nL fr lo t pc : Nat} {r : Int} {M1 M : Mm} {lv : List (Nat × Value)} {st : List Value} (G : Gc LC w X "WhoRules" cc nL fr lo) (hdg : decode cc pc = .ok (.getfield 178, 3)) (kk : VJ LC w X nL t r M1 M lv (.ref (wa w 42) :: st) (pc + 3)) : VJ LC w X nL t r M1 M lv (.ref (wa w 3) :: st) pc := vj_getf G lkC_3 clC_9 inC_9 (j := 7) (by decide) q_315 rfl (fvs_get flC_9_7) hdg kk
theorem gfC_W_190 {w : Wd} {X : Cx} {cc : ByteArray} {nL fr lo t pc : Nat} {r : Int} {M1 M : Mm} {lv : List (Nat × Value)} {st : List Value} (G : Gc LC w X "WhoRules" cc nL fr lo) (hdg : decode cc pc = .ok (.getfield 190, 3)) (kk : VJ LC w X nL t r M1 M lv (.ref (wa w 45) :: st) (pc + 3)) : VJ LC w X nL t r M1 M lv (.ref (wa w 3) :: st) pc := vj_getf G lkC_3 clC_9 inC_9 (j := 10) (by decide) q_322 rfl (fvs_get flC_9_10) hdg kk
theorem gfC_W_193 {w : Wd} {X : Cx} {cc : ByteArray} {nL fr lo t pc : Nat} {r : Int} {M1 M : Mm} {lv : List (Nat × Value)} {st : List Value} (G : Gc LC w X "WhoRules" cc nL fr lo) (hdg : decode cc pc = .ok (.getfield 193, 3)) (kk : VJ LC w X nL t r M1 M lv (.int (i32 (M 3 13)) :: st) (pc + 3)) : VJ LC w X nL t r M1 M lv (.ref (wa w 3) :: st) pc := vj_getf G lkC_3 clC_9 inC_9 (j := 13) (by decide) q_328 rfl (fvs_get flC_9_13) hdg kk
theorem gfC_W_196 {w : Wd} {X : Cx} {cc : ByteArray} {nL fr lo t pc : Nat} {r : Int} {M1 M : Mm} {lv : List (Nat × Value)} {st : List Value} (G : Gc LC w X "WhoRules" cc nL fr lo) (hdg : decode cc pc = .ok (.getfield 196, 3)) (kk : VJ LC w X nL t r M1 M lv (.ref (wa w 47) :: st) (pc + 3)) : VJ LC w X nL t r M1 M lv (.ref (wa w 3) :: st) pc := vj_getf G lkC_3 clC_9 inC_9 (j := 12) (by decide) q_326 rfl (fvs_get flC_9_12) hdg kk
theorem gfC_W_199 {w : Wd} {X : Cx} {cc : ByteArray} {nL fr lo t pc : Nat} {r : Int} {M1 M : Mm} {lv : List (Nat × Value)} {st : List Value} (G : Gc LC w X "WhoRules" cc nL fr lo) (hdg : decode cc pc = .ok (.getfield 199, 3)) (kk : VJ LC w X nL t r M1 M lv (.int (i32 (M 1 2)) :: st) (pc + 3)) : VJ LC w X nL t r M1 M lv (.ref (wa w 1) :: st) pc := vj_getf G lkC_1 clC_7 inC_7 (j := 2) (by decide) q_159 rfl (fvs_get flC_7_2) hdg kk
theorem gfC_W_202 {w : Wd} {X : Cx} {cc : ByteArray} {nL fr lo t pc : Nat} {r : Int} {M1 M : Mm} {lv : List (Nat × Value)} {st : List Value} (G : Gc LC w X "WhoRules" cc nL fr lo) (hdg : decode cc pc = .ok (.getfield 202, 3)) (kk : VJ LC w X nL t r M1 M lv (.int (i32 (M 1 3)) :: st) (pc + 3)) : VJ LC w X nL t r M1 M lv (.ref (wa w 1) :: st) pc := vj_getf G lkC_1 clC_7 inC_7 (j := 3) (by decide) q_163 rfl (fvs_get flC_7_3) hdg kk
theorem gfC_W_223 {w : Wd} {X : Cx} {cc : ByteArray} {nL fr lo t pc : Nat} {r : Int} {M1 M : Mm} {lv : List (Nat × Value)} {st : List Value} (G : Gc LC w X "WhoRules" cc nL fr lo) (hdg : decode cc pc = .ok (.getfield 223, 3)) (kk : VJ LC w X nL t r M1 M lv (.long (i64 (M 5 8)) :: st) (pc + 3)) : VJ LC w X nL t r M1 M lv (.ref (wa w 5) :: st) pc := vj_getf G lkC_5 clC_11 inC_11 (j := 8) (by decide) q_421 rfl (fvs_get flC_11_8) hdg kk
theorem gfC_W_227 {w : Wd} {X : Cx} {cc : ByteArray} {nL fr lo t pc : Nat} {r : Int} {M1 M : Mm} {lv : List (Nat × Value)} {st : List Value} (G : Gc LC w X "WhoRules" cc nL fr lo) (hdg : decode cc pc = .ok (.getfield 227, 3)) (kk : VJ LC w X nL t r M1 M lv (.long (i64 (M 5 9)) :: st) (pc + 3)) : VJ LC w X nL t r M1 M lv (.ref (wa w 5) :: st) pc := vj_getf G lkC_5 clC_11 inC_11 (j := 9) (by decide) q_423 rfl (fvs_get flC_11_9) hdg kk
theorem gfC_W_258 {w : Wd} {X : Cx} {cc : ByteArray} {nL fr lo t pc : Nat} {r : Int} {M1 M : Mm} {lv : List (Nat × Value)} {st : List Value} (G : Gc LC w X "WhoRules" cc nL fr lo) (hdg : decode cc pc = .ok (.getfield 258, 3)) (kk : VJ LC w X nL t r M1 M lv (.int (i32 (M 0 8)) :: st) (pc + 3)) : VJ LC w X nL t r M1 M lv (.ref (wa w 0) :: st) pc := vj_getf G lkC_0 clC_6 inC_6 (j := 8) (by decide) q_458 rfl (fvs_get flC_6_8) hdg kk
theorem gfC_W_267 {w : Wd} {X : Cx} {cc : ByteArray} {nL fr lo t pc : Nat} {r : Int} {M1 M : Mm} {lv : List (Nat × Value)} {st : List Value} (G : Gc LC w X "WhoRules" cc nL fr lo) (hdg : decode cc pc = .ok (.getfield 267, 3)) (kk : VJ LC w X nL t r M1 M lv (.int (i32 (M 1 1)) :: st) (pc + 3)) : VJ LC w X nL t r M1 M lv (.ref (wa w 1) :: st) pc := vj_getf G lkC_1 clC_7 inC_7 (j := 1) (by decide) q_154 rfl (fvs_get flC_7_1) hdg kk
theorem gfC_W_284 {w : Wd} {X : Cx} {cc : ByteArray} {nL fr lo t pc : Nat} {r : Int} {M1 M : Mm} {lv : List (Nat × Value)} {st : List Value} (G : Gc LC w X "WhoRules" cc nL fr lo) (hdg : decode cc pc = .ok (.getfield 284, 3)) (kk : VJ LC w X nL t r M1 M lv (.ref (wa w 59) :: st) (pc + 3)) : VJ LC w X nL t r M1 M lv (.ref (wa w 5) :: st) pc := vj_getf G lkC_5 clC_11 inC_11 (j := 4) (by decide) q_416 rfl (fvs_get flC_11_4) hdg kk
theorem gfC_W_312 {w : Wd} {X : Cx} {cc : ByteArray} {nL fr lo t pc : Nat} {r : Int} {M1 M : Mm} {lv : List (Nat × Value)} {st : List Value} (G : Gc LC w X "WhoRules" cc nL fr lo) (hdg : decode cc pc = .ok (.getfield 312, 3)) (kk : VJ LC w X nL t r M1 M lv (.int (i32 (M 1 4)) :: st) (pc + 3)) : VJ LC w X nL t r M1 M lv (.ref (wa w 1) :: st) pc := vj_getf G lkC_1 clC_7 inC_7 (j := 4) (by decide) q_168 rfl (fvs_get flC_7_4) hdg kk
theorem gfC_C_11 {w : Wd} {X : Cx} {cc : ByteArray} {nL fr lo t pc : Nat} {r : Int} {M1 M : Mm} {lv : List (Nat × Value)} {st : List Value} (G : Gc LC w X "WhoRules$Charters" cc nL fr lo) (hdg : decode cc pc = .ok (.getfield 11, 3)) (kk : VJ LC w X nL t r M1 M lv (.ref (wa w 30) :: st) (pc + 3)) : VJ LC w X nL t r M1 M lv (.ref (wa w 2) :: st) pc := vj_getf G lkC_2 clC_8 inC_8 (j := 2) (by decide) q_261 rfl (fvs_get flC_8_2) hdg kk
theorem gfC_C_15 {w : Wd} {X : Cx} {cc : ByteArray} {nL fr lo t pc : Nat} {r : Int} {M1 M : Mm} {lv : List (Nat × Value)} {st : List Value} (G : Gc LC w X "WhoRules$Charters" cc nL fr lo) (hdg : decode cc pc = .ok (.getfield 15, 3)) (kk : VJ LC w X nL t r M1 M lv (.ref (wa w 31) :: st) (pc + 3)) : VJ LC w X nL t r M1 M lv (.ref (wa w 2) :: st) pc := vj_getf G lkC_2 clC_8 inC_8 (j := 4) (by decide) q_263 rfl (fvs_get flC_8_4) hdg kk
theorem gfC_C_19 {w : Wd} {X : Cx} {cc : ByteArray} {nL fr lo t pc : Nat} {r : Int} {M1 M : Mm} {lv : List (Nat × Value)} {st : List Value} (G : Gc LC w X "WhoRules$Charters" cc nL fr lo) (hdg : decode cc pc = .ok (.getfield 19, 3)) (kk : VJ LC w X nL t r M1 M lv (.ref (wa w 32) :: st) (pc + 3)) : VJ LC w X nL t r M1 M lv (.ref (wa w 2) :: st) pc := vj_getf G lkC_2 clC_8 inC_8 (j := 5) (by decide) q_264 rfl (fvs_get flC_8_5) hdg kk
theorem gfC_C_22 {w : Wd} {X : Cx} {cc : ByteArray} {nL fr lo t pc : Nat} {r : Int} {M1 M : Mm} {lv : List (Nat × Value)} {st : List Value} (G : Gc LC w X "WhoRules$Charters" cc nL fr lo) (hdg : decode cc pc = .ok (.getfield 22, 3)) (kk : VJ LC w X nL t r M1 M lv (.ref (wa w 33) :: st) (pc + 3)) : VJ LC w X nL t r M1 M lv (.ref (wa w 2) :: st) pc := vj_getf G lkC_2 clC_8 inC_8 (j := 6) (by decide) q_265 rfl (fvs_get flC_8_6) hdg kk
theorem gfC_C_25 {w : Wd} {X : Cx} {cc : ByteArray} {nL fr lo t pc : Nat} {r : Int} {M1 M : Mm} {lv : List (Nat × Value)} {st : List Value} (G : Gc LC w X "WhoRules$Charters" cc nL fr lo) (hdg : decode cc pc = .ok (.getfield 25, 3)) (kk : VJ LC w X nL t r M1 M lv (.ref (wa w 34) :: st) (pc + 3)) : VJ LC w X nL t r M1 M lv (.ref (wa w 2) :: st) pc := vj_getf G lkC_2 clC_8 inC_8 (j := 7) (by decide) q_266 rfl (fvs_get flC_8_7) hdg kk
theorem gfC_C_28 {w : Wd} {X : Cx} {cc : ByteArray} {nL fr lo t pc : Nat} {r : Int} {M1 M : Mm} {lv : List (Nat × Value)} {st : List Value} (G : Gc LC w X "WhoRules$Charters" cc nL fr lo) (hdg : decode cc pc = .ok (.getfield 28, 3)) (kk : VJ LC w X nL t r M1 M lv (.ref (wa w 35) :: st) (pc + 3)) : VJ LC w X nL t r M1 M lv (.ref (wa w 2) :: st) pc := vj_getf G lkC_2 clC_8 inC_8 (j := 8) (by decide) q_267 rfl (fvs_get flC_8_8) hdg kk
theorem gfC_C_31 {w : Wd} {X : Cx} {cc : ByteArray} {nL fr lo t pc : Nat} {r : Int} {M1 M : Mm} {lv : List (Nat × Value)} {st : List Value} (G : Gc LC w X "WhoRules$Charters" cc nL fr lo) (hdg : decode cc pc = .ok (.getfield 31, 3)) (kk : VJ LC w X nL t r M1 M lv (.ref (wa w 36) :: st) (pc + 3)) : VJ LC w X nL t r M1 M lv (.ref (wa w 2) :: st) pc := vj_getf G lkC_2 clC_8 inC_8 (j := 9) (by decide) q_268 rfl (fvs_get flC_8_9) hdg kk
theorem gfC_C_34 {w : Wd} {X : Cx} {cc : ByteArray} {nL fr lo t pc : Nat} {r : Int} {M1 M : Mm} {lv : List (Nat × Value)} {st : List Value} (G : Gc LC w X "WhoRules$Charters" cc nL fr lo) (hdg : decode cc pc = .ok (.getfield 34, 3)) (kk : VJ LC w X nL t r M1 M lv (.ref (wa w 37) :: st) (pc + 3)) : VJ LC w X nL t r M1 M lv (.ref (wa w 2) :: st) pc := vj_getf G lkC_2 clC_8 inC_8 (j := 10) (by decide) q_269 rfl (fvs_get flC_8_10) hdg kk
theorem gfC_C_37 {w : Wd} {X : Cx} {cc : ByteArray} {nL fr lo t pc : Nat} {r : Int} {M1 M : Mm} {lv : List (Nat × Value)} {st : List Value} (G : Gc LC w X "WhoRules$Charters" cc nL fr lo) (hdg : decode cc pc = .ok (.getfield 37, 3)) (kk : VJ LC w X nL t r M1 M lv (.int (i32 (M 2 1)) :: st) (pc + 3)) : VJ LC w X nL t r M1 M lv (.ref (wa w 2) :: st) pc := vj_getf G lkC_2 clC_8 inC_8 (j := 1) (by decide) q_259 rfl (fvs_get flC_8_1) hdg kk
theorem gfC_C_41 {w : Wd} {X : Cx} {cc : ByteArray} {nL fr lo t pc : Nat} {r : Int} {M1 M : Mm} {lv : List (Nat × Value)} {st : List Value} (G : Gc LC w X "WhoRules$Charters" cc nL fr lo) (hdg : decode cc pc = .ok (.getfield 41, 3)) (kk : VJ LC w X nL t r M1 M lv (.int (i32 (M 2 3)) :: st) (pc + 3)) : VJ LC w X nL t r M1 M lv (.ref (wa w 2) :: st) pc := vj_getf G lkC_2 clC_8 inC_8 (j := 3) (by decide) q_262 rfl (fvs_get flC_8_3) hdg kk
theorem gfC_C_44 {w : Wd} {X : Cx} {cc : ByteArray} {nL fr lo t pc : Nat} {r : Int} {M1 M : Mm} {lv : List (Nat × Value)} {st : List Value} (G : Gc LC w X "WhoRules$Charters" cc nL fr lo) (hdg : decode cc pc = .ok (.getfield 44, 3)) (kk : VJ LC w X nL t r M1 M lv (.int (i32 (M 2 0)) :: st) (pc + 3)) : VJ LC w X nL t r M1 M lv (.ref (wa w 2) :: st) pc := vj_getf G lkC_2 clC_8 inC_8 (j := 0) (by decide) q_257 rfl (fvs_get flC_8_0) hdg kk
theorem gfC_C_47 {w : Wd} {X : Cx} {cc : ByteArray} {nL fr lo t pc : Nat} {r : Int} {M1 M : Mm} {lv : List (Nat × Value)} {st : List Value} (G : Gc LC w X "WhoRules$Charters" cc nL fr lo) (hdg : decode cc pc = .ok (.getfield 47, 3)) (kk : VJ LC w X nL t r M1 M lv (.int (i32 (M 2 11)) :: st) (pc + 3)) : VJ LC w X nL t r M1 M lv (.ref (wa w 2) :: st) pc := vj_getf G lkC_2 clC_8 inC_8 (j := 11) (by decide) q_270 rfl (fvs_get flC_8_11) hdg kk
theorem gfC_F_11 {w : Wd} {X : Cx} {cc : ByteArray} {nL fr lo t pc : Nat} {r : Int} {M1 M : Mm} {lv : List (Nat × Value)} {st : List Value} (G : Gc LC w X "WhoRules$Flow" cc nL fr lo) (hdg : decode cc pc = .ok (.getfield 11, 3)) (kk : VJ LC w X nL t r M1 M lv (.ref (wa w 56) :: st) (pc + 3)) : VJ LC w X nL t r M1 M lv (.ref (wa w 5) :: st) pc := vj_getf G lkC_5 clC_11 inC_11 (j := 1) (by decide) q_412 rfl (fvs_get flC_11_1) hdg kk
theorem gfC_F_16 {w : Wd} {X : Cx} {cc : ByteArray} {nL fr lo t pc : Nat} {r : Int} {M1 M : Mm} {lv : List (Nat × Value)} {st : List Value} (G : Gc LC w X "WhoRules$Flow" cc nL fr lo) (hdg : decode cc pc = .ok (.getfield 16, 3)) (kk : VJ LC w X nL t r M1 M lv (.ref (wa w 57) :: st) (pc + 3)) : VJ LC w X nL t r M1 M lv (.ref (wa w 5) :: st) pc := vj_getf G lkC_5 clC_11 inC_11 (j := 2) (by decide) q_413 rfl (fvs_get flC_11_2) hdg kk
theorem gfC_F_20 {w : Wd} {X : Cx} {cc : ByteArray} {nL fr lo t pc : Nat} {r : Int} {M1 M : Mm} {lv : List (Nat × Value)} {st : List Value} (G : Gc LC w X "WhoRules$Flow" cc nL fr lo) (hdg : decode cc pc = .ok (.getfield 20, 3)) (kk : VJ LC w X nL t r M1 M lv (.ref (wa w 58) :: st) (pc + 3)) : VJ LC w X nL t r M1 M lv (.ref (wa w 5) :: st) pc := vj_getf G lkC_5 clC_11 inC_11 (j := 3) (by decide) q_414 rfl (fvs_get flC_11_3) hdg kk
theorem gfC_F_23 {w : Wd} {X : Cx} {cc : ByteArray} {nL fr lo t pc : Nat} {r : Int} {M1 M : Mm} {lv : List (Nat × Value)} {st : List Value} (G : Gc LC w X "WhoRules$Flow" cc nL fr lo) (hdg : decode cc pc = .ok (.getfield 23, 3)) (kk : VJ LC w X nL t r M1 M lv (.ref (wa w 59) :: st) (pc + 3)) : VJ LC w X nL t r M1 M lv (.ref (wa w 5) :: st) pc := vj_getf G lkC_5 clC_11 inC_11 (j := 4) (by decide) q_415 rfl (fvs_get flC_11_4) hdg kk
theorem gfC_F_26 {w : Wd} {X : Cx} {cc : ByteArray} {nL fr lo t pc : Nat} {r : Int} {M1 M : Mm} {lv : List (Nat × Value)} {st : List Value} (G : Gc LC w X "WhoRules$Flow" cc nL fr lo) (hdg : decode cc pc = .ok (.getfield 26, 3)) (kk : VJ LC w X nL t r M1 M lv (.ref (wa w 60) :: st) (pc + 3)) : VJ LC w X nL t r M1 M lv (.ref (wa w 5) :: st) pc := vj_getf G lkC_5 clC_11 inC_11 (j := 5) (by decide) q_417 rfl (fvs_get flC_11_5) hdg kk
theorem gfC_F_29 {w : Wd} {X : Cx} {cc : ByteArray} {nL fr lo t pc : Nat} {r : Int} {M1 M : Mm} {lv : List (Nat × Value)} {st : List Value} (G : Gc LC w X "WhoRules$Flow" cc nL fr lo) (hdg : decode cc pc = .ok (.getfield 29, 3)) (kk : VJ LC w X nL t r M1 M lv (.ref (wa w 61) :: st) (pc + 3)) : VJ LC w X nL t r M1 M lv (.ref (wa w 5) :: st) pc := vj_getf G lkC_5 clC_11 inC_11 (j := 6) (by decide) q_418 rfl (fvs_get flC_11_6) hdg kk
theorem gfC_F_34 {w : Wd} {X : Cx} {cc : ByteArray} {nL fr lo t pc : Nat} {r : Int} {M1 M : Mm} {lv : List (Nat × Value)} {st : List Value} (G : Gc LC w X "WhoRules$Flow" cc nL fr lo) (hdg : decode cc pc = .ok (.getfield 34, 3)) (kk : VJ LC w X nL t r M1 M lv (.ref (wa w 62) :: st) (pc + 3)) : VJ LC w X nL t r M1 M lv (.ref (wa w 5) :: st) pc := vj_getf G lkC_5 clC_11 inC_11 (j := 7) (by decide) q_419 rfl (fvs_get flC_11_7) hdg kk
theorem gfC_F_37 {w : Wd} {X : Cx} {cc : ByteArray} {nL fr lo t pc : Nat} {r : Int} {M1 M : Mm} {lv : List (Nat × Value)} {st : List Value} (G : Gc LC w X "WhoRules$Flow" cc nL fr lo) (hdg : decode cc pc = .ok (.getfield 37, 3)) (kk : VJ LC w X nL t r M1 M lv (.ref (wa w 1) :: st) (pc + 3)) : VJ LC w X nL t r M1 M lv (.ref (wa w 5) :: st) pc := vj_getf G lkC_5 clC_11 inC_11 (j := 0) (by decide) q_411 rfl (fvs_get flC_11_0) hdg kk
theorem gfC_F_41 {w : Wd} {X : Cx} {cc : ByteArray} {nL fr lo t pc : Nat} {r : Int} {M1 M : Mm} {lv : List (Nat × Value)} {st : List Value} (G : Gc LC w X "WhoRules$Flow" cc nL fr lo) (hdg : decode cc pc = .ok (.getfield 41, 3)) (kk : VJ LC w X nL t r M1 M lv (.int (i32 (M 1 0)) :: st) (pc + 3)) : VJ LC w X nL t r M1 M lv (.ref (wa w 1) :: st) pc := vj_getf G lkC_1 clC_7 inC_7 (j := 0) (by decide) q_146 rfl (fvs_get flC_7_0) hdg kk
theorem gfC_F_51 {w : Wd} {X : Cx} {cc : ByteArray} {nL fr lo t pc : Nat} {r : Int} {M1 M : Mm} {lv : List (Nat × Value)} {st : List Value} (G : Gc LC w X "WhoRules$Flow" cc nL fr lo) (hdg : decode cc pc = .ok (.getfield 51, 3)) (kk : VJ LC w X nL t r M1 M lv (.int (i32 (M 1 2)) :: st) (pc + 3)) : VJ LC w X nL t r M1 M lv (.ref (wa w 1) :: st) pc := vj_getf G lkC_1 clC_7 inC_7 (j := 2) (by decide) q_157 rfl (fvs_get flC_7_2) hdg kk
theorem gfC_F_54 {w : Wd} {X : Cx} {cc : ByteArray} {nL fr lo t pc : Nat} {r : Int} {M1 M : Mm} {lv : List (Nat × Value)} {st : List Value} (G : Gc LC w X "WhoRules$Flow" cc nL fr lo) (hdg : decode cc pc = .ok (.getfield 54, 3)) (kk : VJ LC w X nL t r M1 M lv (.ref (wa w 19) :: st) (pc + 3)) : VJ LC w X nL t r M1 M lv (.ref (wa w 1) :: st) pc := vj_getf G lkC_1 clC_7 inC_7 (j := 8) (by decide) q_177 rfl (fvs_get flC_7_8) hdg kk
theorem gfC_F_63 {w : Wd} {X : Cx} {cc : ByteArray} {nL fr lo t pc : Nat} {r : Int} {M1 M : Mm} {lv : List (Nat × Value)} {st : List Value} (G : Gc LC w X "WhoRules$Flow" cc nL fr lo) (hdg : decode cc pc = .ok (.getfield 63, 3)) (kk : VJ LC w X nL t r M1 M lv (.int (i32 (M 1 4)) :: st) (pc + 3)) : VJ LC w X nL t r M1 M lv (.ref (wa w 1) :: st) pc := vj_getf G lkC_1 clC_7 inC_7 (j := 4) (by decide) q_164 rfl (fvs_get flC_7_4) hdg kk
theorem gfC_F_66 {w : Wd} {X : Cx} {cc : ByteArray} {nL fr lo t pc : Nat} {r : Int} {M1 M : Mm} {lv : List (Nat × Value)} {st : List Value} (G : Gc LC w X "WhoRules$Flow" cc nL fr lo) (hdg : decode cc pc = .ok (.getfield 66, 3)) (kk : VJ LC w X nL t r M1 M lv (.ref (wa w 25) :: st) (pc + 3)) : VJ LC w X nL t r M1 M lv (.ref (wa w 1) :: st) pc := vj_getf G lkC_1 clC_7 inC_7 (j := 14) (by decide) q_198 rfl (fvs_get flC_7_14) hdg kk
theorem gfC_F_69 {w : Wd} {X : Cx} {cc : ByteArray} {nL fr lo t pc : Nat} {r : Int} {M1 M : Mm} {lv : List (Nat × Value)} {st : List Value} (G : Gc LC w X "WhoRules$Flow" cc nL fr lo) (hdg : decode cc pc = .ok (.getfield 69, 3)) (kk : VJ LC w X nL t r M1 M lv (.ref (wa w 21) :: st) (pc + 3)) : VJ LC w X nL t r M1 M lv (.ref (wa w 1) :: st) pc := vj_getf G lkC_1 clC_7 inC_7 (j := 10) (by decide) q_183 rfl (fvs_get flC_7_10) hdg kk
theorem gfC_F_72 {w : Wd} {X : Cx} {cc : ByteArray} {nL fr lo t pc : Nat} {r : Int} {M1 M : Mm} {lv : List (Nat × Value)} {st : List Value} (G : Gc LC w X "WhoRules$Flow" cc nL fr lo) (hdg : decode cc pc = .ok (.getfield 72, 3)) (kk : VJ LC w X nL t r M1 M lv (.ref (wa w 22) :: st) (pc + 3)) : VJ LC w X nL t r M1 M lv (.ref (wa w 1) :: st) pc := vj_getf G lkC_1 clC_7 inC_7 (j := 11) (by decide) q_187 rfl (fvs_get flC_7_11) hdg kk
theorem gfC_F_85 {w : Wd} {X : Cx} {cc : ByteArray} {nL fr lo t pc : Nat} {r : Int} {M1 M : Mm} {lv : List (Nat × Value)} {st : List Value} (G : Gc LC w X "WhoRules$Flow" cc nL fr lo) (hdg : decode cc pc = .ok (.getfield 85, 3)) (kk : VJ LC w X nL t r M1 M lv (.int (i32 (M 1 1)) :: st) (pc + 3)) : VJ LC w X nL t r M1 M lv (.ref (wa w 1) :: st) pc := vj_getf G lkC_1 clC_7 inC_7 (j := 1) (by decide) q_151 rfl (fvs_get flC_7_1) hdg kk
theorem gfC_R_17 {w : Wd} {X : Cx} {cc : ByteArray} {nL fr lo t pc : Nat} {r : Int} {M1 M : Mm} {lv : List (Nat × Value)} {st : List Value} (G : Gc LC w X "WhoRules$Register" cc nL fr lo) (hdg : decode cc pc = .ok (.getfield 17, 3)) (kk : VJ LC w X nL t r M1 M lv (.ref (wa w 17) :: st) (pc + 3)) : VJ LC w X nL t r M1 M lv (.ref (wa w 1) :: st) pc := vj_getf G lkC_1 clC_7 inC_7 (j := 6) (by decide) q_170 rfl (fvs_get flC_7_6) hdg kk
theorem gfC_R_21 {w : Wd} {X : Cx} {cc : ByteArray} {nL fr lo t pc : Nat} {r : Int} {M1 M : Mm} {lv : List (Nat × Value)} {st : List Value} (G : Gc LC w X "WhoRules$Register" cc nL fr lo) (hdg : decode cc pc = .ok (.getfield 21, 3)) (kk : VJ LC w X nL t r M1 M lv (.ref (wa w 18) :: st) (pc + 3)) : VJ LC w X nL t r M1 M lv (.ref (wa w 1) :: st) pc := vj_getf G lkC_1 clC_7 inC_7 (j := 7) (by decide) q_173 rfl (fvs_get flC_7_7) hdg kk
theorem gfC_R_30 {w : Wd} {X : Cx} {cc : ByteArray} {nL fr lo t pc : Nat} {r : Int} {M1 M : Mm} {lv : List (Nat × Value)} {st : List Value} (G : Gc LC w X "WhoRules$Register" cc nL fr lo) (hdg : decode cc pc = .ok (.getfield 30, 3)) (kk : VJ LC w X nL t r M1 M lv (.ref (wa w 21) :: st) (pc + 3)) : VJ LC w X nL t r M1 M lv (.ref (wa w 1) :: st) pc := vj_getf G lkC_1 clC_7 inC_7 (j := 10) (by decide) q_182 rfl (fvs_get flC_7_10) hdg kk
theorem gfC_R_33 {w : Wd} {X : Cx} {cc : ByteArray} {nL fr lo t pc : Nat} {r : Int} {M1 M : Mm} {lv : List (Nat × Value)} {st : List Value} (G : Gc LC w X "WhoRules$Register" cc nL fr lo) (hdg : decode cc pc = .ok (.getfield 33, 3)) (kk : VJ LC w X nL t r M1 M lv (.ref (wa w 22) :: st) (pc + 3)) : VJ LC w X nL t r M1 M lv (.ref (wa w 1) :: st) pc := vj_getf G lkC_1 clC_7 inC_7 (j := 11) (by decide) q_186 rfl (fvs_get flC_7_11) hdg kk
theorem gfC_R_36 {w : Wd} {X : Cx} {cc : ByteArray} {nL fr lo t pc : Nat} {r : Int} {M1 M : Mm} {lv : List (Nat × Value)} {st : List Value} (G : Gc LC w X "WhoRules$Register" cc nL fr lo) (hdg : decode cc pc = .ok (.getfield 36, 3)) (kk : VJ LC w X nL t r M1 M lv (.ref (wa w 23) :: st) (pc + 3)) : VJ LC w X nL t r M1 M lv (.ref (wa w 1) :: st) pc := vj_getf G lkC_1 clC_7 inC_7 (j := 12) (by decide) q_191 rfl (fvs_get flC_7_12) hdg kk
theorem gfC_R_39 {w : Wd} {X : Cx} {cc : ByteArray} {nL fr lo t pc : Nat} {r : Int} {M1 M : Mm} {lv : List (Nat × Value)} {st : List Value} (G : Gc LC w X "WhoRules$Register" cc nL fr lo) (hdg : decode cc pc = .ok (.getfield 39, 3)) (kk : VJ LC w X nL t r M1 M lv (.ref (wa w 24) :: st) (pc + 3)) : VJ LC w X nL t r M1 M lv (.ref (wa w 1) :: st) pc := vj_getf G lkC_1 clC_7 inC_7 (j := 13) (by decide) q_194 rfl (fvs_get flC_7_13) hdg kk
theorem gfC_R_42 {w : Wd} {X : Cx} {cc : ByteArray} {nL fr lo t pc : Nat} {r : Int} {M1 M : Mm} {lv : List (Nat × Value)} {st : List Value} (G : Gc LC w X "WhoRules$Register" cc nL fr lo) (hdg : decode cc pc = .ok (.getfield 42, 3)) (kk : VJ LC w X nL t r M1 M lv (.ref (wa w 25) :: st) (pc + 3)) : VJ LC w X nL t r M1 M lv (.ref (wa w 1) :: st) pc := vj_getf G lkC_1 clC_7 inC_7 (j := 14) (by decide) q_197 rfl (fvs_get flC_7_14) hdg kk
theorem gfC_R_45 {w : Wd} {X : Cx} {cc : ByteArray} {nL fr lo t pc : Nat} {r : Int} {M1 M : Mm} {lv : List (Nat × Value)} {st : List Value} (G : Gc LC w X "WhoRules$Register" cc nL fr lo) (hdg : decode cc pc = .ok (.getfield 45, 3)) (kk : VJ LC w X nL t r M1 M lv (.ref (wa w 26) :: st) (pc + 3)) : VJ LC w X nL t r M1 M lv (.ref (wa w 1) :: st) pc := vj_getf G lkC_1 clC_7 inC_7 (j := 15) (by decide) q_202 rfl (fvs_get flC_7_15) hdg kk
theorem gfC_R_48 {w : Wd} {X : Cx} {cc : ByteArray} {nL fr lo t pc : Nat} {r : Int} {M1 M : Mm} {lv : List (Nat × Value)} {st : List Value} (G : Gc LC w X "WhoRules$Register" cc nL fr lo) (hdg : decode cc pc = .ok (.getfield 48, 3)) (kk : VJ LC w X nL t r M1 M lv (.ref (wa w 27) :: st) (pc + 3)) : VJ LC w X nL t r M1 M lv (.ref (wa w 1) :: st) pc := vj_getf G lkC_1 clC_7 inC_7 (j := 17) (by decide) q_206 rfl (fvs_get flC_7_17) hdg kk
theorem gfC_R_51 {w : Wd} {X : Cx} {cc : ByteArray} {nL fr lo t pc : Nat} {r : Int} {M1 M : Mm} {lv : List (Nat × Value)} {st : List Value} (G : Gc LC w X "WhoRules$Register" cc nL fr lo) (hdg : decode cc pc = .ok (.getfield 51, 3)) (kk : VJ LC w X nL t r M1 M lv (.ref (wa w 28) :: st) (pc + 3)) : VJ LC w X nL t r M1 M lv (.ref (wa w 1) :: st) pc := vj_getf G lkC_1 clC_7 inC_7 (j := 18) (by decide) q_207 rfl (fvs_get flC_7_18) hdg kk
theorem gfC_R_54 {w : Wd} {X : Cx} {cc : ByteArray} {nL fr lo t pc : Nat} {r : Int} {M1 M : Mm} {lv : List (Nat × Value)} {st : List Value} (G : Gc LC w X "WhoRules$Register" cc nL fr lo) (hdg : decode cc pc = .ok (.getfield 54, 3)) (kk : VJ LC w X nL t r M1 M lv (.ref (wa w 29) :: st) (pc + 3)) : VJ LC w X nL t r M1 M lv (.ref (wa w 1) :: st) pc := vj_getf G lkC_1 clC_7 inC_7 (j := 19) (by decide) q_208 rfl (fvs_get flC_7_19) hdg kk
theorem gfC_R_57 {w : Wd} {X : Cx} {cc : ByteArray} {nL fr lo t pc : Nat} {r : Int} {M1 M : Mm} {lv : List (Nat × Value)} {st : List Value} (G : Gc LC w X "WhoRules$Register" cc nL fr lo) (hdg : decode cc pc = .ok (.getfield 57, 3)) (kk : VJ LC w X nL t r M1 M lv (.int (i32 (M 1 1)) :: st) (pc + 3)) : VJ LC w X nL t r M1 M lv (.ref (wa w 1) :: st) pc := vj_getf G lkC_1 clC_7 inC_7 (j := 1) (by decide) q_150 rfl (fvs_get flC_7_1) hdg kk
theorem gfC_R_68 {w : Wd} {X : Cx} {cc : ByteArray} {nL fr lo t pc : Nat} {r : Int} {M1 M : Mm} {lv : List (Nat × Value)} {st : List Value} (G : Gc LC w X "WhoRules$Register" cc nL fr lo) (hdg : decode cc pc = .ok (.getfield 68, 3)) (kk : VJ LC w X nL t r M1 M lv (.int (i32 (M 1 4)) :: st) (pc + 3)) : VJ LC w X nL t r M1 M lv (.ref (wa w 1) :: st) pc := vj_getf G lkC_1 clC_7 inC_7 (j := 4) (by decide) q_166 rfl (fvs_get flC_7_4) hdg kk
theorem gfC_R_115 {w : Wd} {X : Cx} {cc : ByteArray} {nL fr lo t pc : Nat} {r : Int} {M1 M : Mm} {lv : List (Nat × Value)} {st : List Value} (G : Gc LC w X "WhoRules$Register" cc nL fr lo) (hdg : decode cc pc = .ok (.getfield 115, 3)) (kk : VJ LC w X nL t r M1 M lv (.int (i32 (M 1 16)) :: st) (pc + 3)) : VJ LC w X nL t r M1 M lv (.ref (wa w 1) :: st) pc := vj_getf G lkC_1 clC_7 inC_7 (j := 16) (by decide) q_205 rfl (fvs_get flC_7_16) hdg kk
theorem gfC_R_118 {w : Wd} {X : Cx} {cc : ByteArray} {nL fr lo t pc : Nat} {r : Int} {M1 M : Mm} {lv : List (Nat × Value)} {st : List Value} (G : Gc LC w X "WhoRules$Register" cc nL fr lo) (hdg : decode cc pc = .ok (.getfield 118, 3)) (kk : VJ LC w X nL t r M1 M lv (.int (i32 (M 1 0)) :: st) (pc + 3)) : VJ LC w X nL t r M1 M lv (.ref (wa w 1) :: st) pc := vj_getf G lkC_1 clC_7 inC_7 (j := 0) (by decide) q_149 rfl (fvs_get flC_7_0) hdg kk
theorem gfC_U_11 {w : Wd} {X : Cx} {cc : ByteArray} {nL fr lo t pc : Nat} {r : Int} {M1 M : Mm} {lv : List (Nat × Value)} {st : List Value} (G : Gc LC w X "WhoRules$Rule" cc nL fr lo) (hdg : decode cc pc = .ok (.getfield 11, 3)) (kk : VJ LC w X nL t r M1 M lv (.ref (wa w 38) :: st) (pc + 3)) : VJ LC w X nL t r M1 M lv (.ref (wa w 3) :: st) pc := vj_getf G lkC_3 clC_9 inC_9 (j := 3) (by decide) q_308 rfl (fvs_get flC_9_3) hdg kk
theorem gfC_U_16 {w : Wd} {X : Cx} {cc : ByteArray} {nL fr lo t pc : Nat} {r : Int} {M1 M : Mm} {lv : List (Nat × Value)} {st : List Value} (G : Gc LC w X "WhoRules$Rule" cc nL fr lo) (hdg : decode cc pc = .ok (.getfield 16, 3)) (kk : VJ LC w X nL t r M1 M lv (.ref (wa w 39) :: st) (pc + 3)) : VJ LC w X nL t r M1 M lv (.ref (wa w 3) :: st) pc := vj_getf G lkC_3 clC_9 inC_9 (j := 4) (by decide) q_310 rfl (fvs_get flC_9_4) hdg kk
theorem gfC_U_20 {w : Wd} {X : Cx} {cc : ByteArray} {nL fr lo t pc : Nat} {r : Int} {M1 M : Mm} {lv : List (Nat × Value)} {st : List Value} (G : Gc LC w X "WhoRules$Rule" cc nL fr lo) (hdg : decode cc pc = .ok (.getfield 20, 3)) (kk : VJ LC w X nL t r M1 M lv (.ref (wa w 40) :: st) (pc + 3)) : VJ LC w X nL t r M1 M lv (.ref (wa w 3) :: st) pc := vj_getf G lkC_3 clC_9 inC_9 (j := 5) (by decide) q_311 rfl (fvs_get flC_9_5) hdg kk
theorem gfC_U_25 {w : Wd} {X : Cx} {cc : ByteArray} {nL fr lo t pc : Nat} {r : Int} {M1 M : Mm} {lv : List (Nat × Value)} {st : List Value} (G : Gc LC w X "WhoRules$Rule" cc nL fr lo) (hdg : decode cc pc = .ok (.getfield 25, 3)) (kk : VJ LC w X nL t r M1 M lv (.ref (wa w 41) :: st) (pc + 3)) : VJ LC w X nL t r M1 M lv (.ref (wa w 3) :: st) pc := vj_getf G lkC_3 clC_9 inC_9 (j := 6) (by decide) q_312 rfl (fvs_get flC_9_6) hdg kk
theorem gfC_U_28 {w : Wd} {X : Cx} {cc : ByteArray} {nL fr lo t pc : Nat} {r : Int} {M1 M : Mm} {lv : List (Nat × Value)} {st : List Value} (G : Gc LC w X "WhoRules$Rule" cc nL fr lo) (hdg : decode cc pc = .ok (.getfield 28, 3)) (kk : VJ LC w X nL t r M1 M lv (.ref (wa w 42) :: st) (pc + 3)) : VJ LC w X nL t r M1 M lv (.ref (wa w 3) :: st) pc := vj_getf G lkC_3 clC_9 inC_9 (j := 7) (by decide) q_313 rfl (fvs_get flC_9_7) hdg kk
theorem gfC_U_31 {w : Wd} {X : Cx} {cc : ByteArray} {nL fr lo t pc : Nat} {r : Int} {M1 M : Mm} {lv : List (Nat × Value)} {st : List Value} (G : Gc LC w X "WhoRules$Rule" cc nL fr lo) (hdg : decode cc pc = .ok (.getfield 31, 3)) (kk : VJ LC w X nL t r M1 M lv (.ref (wa w 43) :: st) (pc + 3)) : VJ LC w X nL t r M1 M lv (.ref (wa w 3) :: st) pc := vj_getf G lkC_3 clC_9 inC_9 (j := 8) (by decide) q_316 rfl (fvs_get flC_9_8) hdg kk
theorem gfC_U_34 {w : Wd} {X : Cx} {cc : ByteArray} {nL fr lo t pc : Nat} {r : Int} {M1 M : Mm} {lv : List (Nat × Value)} {st : List Value} (G : Gc LC w X "WhoRules$Rule" cc nL fr lo) (hdg : decode cc pc = .ok (.getfield 34, 3)) (kk : VJ LC w X nL t r M1 M lv (.ref (wa w 44) :: st) (pc + 3)) : VJ LC w X nL t r M1 M lv (.ref (wa w 3) :: st) pc := vj_getf G lkC_3 clC_9 inC_9 (j := 9) (by decide) q_318 rfl (fvs_get flC_9_9) hdg kk
theorem gfC_U_37 {w : Wd} {X : Cx} {cc : ByteArray} {nL fr lo t pc : Nat} {r : Int} {M1 M : Mm} {lv : List (Nat × Value)} {st : List Value} (G : Gc LC w X "WhoRules$Rule" cc nL fr lo) (hdg : decode cc pc = .ok (.getfield 37, 3)) (kk : VJ LC w X nL t r M1 M lv (.ref (wa w 45) :: st) (pc + 3)) : VJ LC w X nL t r M1 M lv (.ref (wa w 3) :: st) pc := vj_getf G lkC_3 clC_9 inC_9 (j := 10) (by decide) q_320 rfl (fvs_get flC_9_10) hdg kk
theorem gfC_U_40 {w : Wd} {X : Cx} {cc : ByteArray} {nL fr lo t pc : Nat} {r : Int} {M1 M : Mm} {lv : List (Nat × Value)} {st : List Value} (G : Gc LC w X "WhoRules$Rule" cc nL fr lo) (hdg : decode cc pc = .ok (.getfield 40, 3)) (kk : VJ LC w X nL t r M1 M lv (.ref (wa w 46) :: st) (pc + 3)) : VJ LC w X nL t r M1 M lv (.ref (wa w 3) :: st) pc := vj_getf G lkC_3 clC_9 inC_9 (j := 11) (by decide) q_323 rfl (fvs_get flC_9_11) hdg kk
theorem gfC_U_43 {w : Wd} {X : Cx} {cc : ByteArray} {nL fr lo t pc : Nat} {r : Int} {M1 M : Mm} {lv : List (Nat × Value)} {st : List Value} (G : Gc LC w X "WhoRules$Rule" cc nL fr lo) (hdg : decode cc pc = .ok (.getfield 43, 3)) (kk : VJ LC w X nL t r M1 M lv (.ref (wa w 47) :: st) (pc + 3)) : VJ LC w X nL t r M1 M lv (.ref (wa w 3) :: st) pc := vj_getf G lkC_3 clC_9 inC_9 (j := 12) (by decide) q_325 rfl (fvs_get flC_9_12) hdg kk
theorem gfC_U_46 {w : Wd} {X : Cx} {cc : ByteArray} {nL fr lo t pc : Nat} {r : Int} {M1 M : Mm} {lv : List (Nat × Value)} {st : List Value} (G : Gc LC w X "WhoRules$Rule" cc nL fr lo) (hdg : decode cc pc = .ok (.getfield 46, 3)) (kk : VJ LC w X nL t r M1 M lv (.ref (wa w 1) :: st) (pc + 3)) : VJ LC w X nL t r M1 M lv (.ref (wa w 3) :: st) pc := vj_getf G lkC_3 clC_9 inC_9 (j := 0) (by decide) q_305 rfl (fvs_get flC_9_0) hdg kk
theorem gfC_U_50 {w : Wd} {X : Cx} {cc : ByteArray} {nL fr lo t pc : Nat} {r : Int} {M1 M : Mm} {lv : List (Nat × Value)} {st : List Value} (G : Gc LC w X "WhoRules$Rule" cc nL fr lo) (hdg : decode cc pc = .ok (.getfield 50, 3)) (kk : VJ LC w X nL t r M1 M lv (.ref (wa w 2) :: st) (pc + 3)) : VJ LC w X nL t r M1 M lv (.ref (wa w 3) :: st) pc := vj_getf G lkC_3 clC_9 inC_9 (j := 1) (by decide) q_306 rfl (fvs_get flC_9_1) hdg kk
theorem gfC_U_54 {w : Wd} {X : Cx} {cc : ByteArray} {nL fr lo t pc : Nat} {r : Int} {M1 M : Mm} {lv : List (Nat × Value)} {st : List Value} (G : Gc LC w X "WhoRules$Rule" cc nL fr lo) (hdg : decode cc pc = .ok (.getfield 54, 3)) (kk : VJ LC w X nL t r M1 M lv (.int (i32 (M 3 2)) :: st) (pc + 3)) : VJ LC w X nL t r M1 M lv (.ref (wa w 3) :: st) pc := vj_getf G lkC_3 clC_9 inC_9 (j := 2) (by decide) q_307 rfl (fvs_get flC_9_2) hdg kk
theorem gfC_U_58 {w : Wd} {X : Cx} {cc : ByteArray} {nL fr lo t pc : Nat} {r : Int} {M1 M : Mm} {lv : List (Nat × Value)} {st : List Value} (G : Gc LC w X "WhoRules$Rule" cc nL fr lo) (hdg : decode cc pc = .ok (.getfield 58, 3)) (kk : VJ LC w X nL t r M1 M lv (.int (i32 (M 1 2)) :: st) (pc + 3)) : VJ LC w X nL t r M1 M lv (.ref (wa w 1) :: st) pc := vj_getf G lkC_1 clC_7 inC_7 (j := 2) (by decide) q_155 rfl (fvs_get flC_7_2) hdg kk
theorem gfC_U_63 {w : Wd} {X : Cx} {cc : ByteArray} {nL fr lo t pc : Nat} {r : Int} {M1 M : Mm} {lv : List (Nat × Value)} {st : List Value} (G : Gc LC w X "WhoRules$Rule" cc nL fr lo) (hdg : decode cc pc = .ok (.getfield 63, 3)) (kk : VJ LC w X nL t r M1 M lv (.ref (wa w 19) :: st) (pc + 3)) : VJ LC w X nL t r M1 M lv (.ref (wa w 1) :: st) pc := vj_getf G lkC_1 clC_7 inC_7 (j := 8) (by decide) q_176 rfl (fvs_get flC_7_8) hdg kk
theorem gfC_U_82 {w : Wd} {X : Cx} {cc : ByteArray} {nL fr lo t pc : Nat} {r : Int} {M1 M : Mm} {lv : List (Nat × Value)} {st : List Value} (G : Gc LC w X "WhoRules$Rule" cc nL fr lo) (hdg : decode cc pc = .ok (.getfield 82, 3)) (kk : VJ LC w X nL t r M1 M lv (.int (i32 (M 1 4)) :: st) (pc + 3)) : VJ LC w X nL t r M1 M lv (.ref (wa w 1) :: st) pc := vj_getf G lkC_1 clC_7 inC_7 (j := 4) (by decide) q_165 rfl (fvs_get flC_7_4) hdg kk
theorem gfC_U_88 {w : Wd} {X : Cx} {cc : ByteArray} {nL fr lo t pc : Nat} {r : Int} {M1 M : Mm} {lv : List (Nat × Value)} {st : List Value} (G : Gc LC w X "WhoRules$Rule" cc nL fr lo) (hdg : decode cc pc = .ok (.getfield 88, 3)) (kk : VJ LC w X nL t r M1 M lv (.ref (wa w 25) :: st) (pc + 3)) : VJ LC w X nL t r M1 M lv (.ref (wa w 1) :: st) pc := vj_getf G lkC_1 clC_7 inC_7 (j := 14) (by decide) q_199 rfl (fvs_get flC_7_14) hdg kk
theorem gfC_U_89 {w : Wd} {X : Cx} {cc : ByteArray} {nL fr lo t pc : Nat} {r : Int} {M1 M : Mm} {lv : List (Nat × Value)} {st : List Value} (G : Gc LC w X "WhoRules$Rule" cc nL fr lo) (hdg : decode cc pc = .ok (.getfield 89, 3)) (kk : VJ LC w X nL t r M1 M lv (.ref (wa w 26) :: st) (pc + 3)) : VJ LC w X nL t r M1 M lv (.ref (wa w 1) :: st) pc := vj_getf G lkC_1 clC_7 inC_7 (j := 15) (by decide) q_203 rfl (fvs_get flC_7_15) hdg kk
theorem gfC_U_95 {w : Wd} {X : Cx} {cc : ByteArray} {nL fr lo t pc : Nat} {r : Int} {M1 M : Mm} {lv : List (Nat × Value)} {st : List Value} (G : Gc LC w X "WhoRules$Rule" cc nL fr lo) (hdg : decode cc pc = .ok (.getfield 95, 3)) (kk : VJ LC w X nL t r M1 M lv (.ref (wa w 21) :: st) (pc + 3)) : VJ LC w X nL t r M1 M lv (.ref (wa w 1) :: st) pc := vj_getf G lkC_1 clC_7 inC_7 (j := 10) (by decide) q_184 rfl (fvs_get flC_7_10) hdg kk
theorem gfC_U_105 {w : Wd} {X : Cx} {cc : ByteArray} {nL fr lo t pc : Nat} {r : Int} {M1 M : Mm} {lv : List (Nat × Value)} {st : List Value} (G : Gc LC w X "WhoRules$Rule" cc nL fr lo) (hdg : decode cc pc = .ok (.getfield 105, 3)) (kk : VJ LC w X nL t r M1 M lv (.ref (wa w 23) :: st) (pc + 3)) : VJ LC w X nL t r M1 M lv (.ref (wa w 1) :: st) pc := vj_getf G lkC_1 clC_7 inC_7 (j := 12) (by decide) q_192 rfl (fvs_get flC_7_12) hdg kk
theorem gfC_U_110 {w : Wd} {X : Cx} {cc : ByteArray} {nL fr lo t pc : Nat} {r : Int} {M1 M : Mm} {lv : List (Nat × Value)} {st : List Value} (G : Gc LC w X "WhoRules$Rule" cc nL fr lo) (hdg : decode cc pc = .ok (.getfield 110, 3)) (kk : VJ LC w X nL t r M1 M lv (.ref (wa w 17) :: st) (pc + 3)) : VJ LC w X nL t r M1 M lv (.ref (wa w 1) :: st) pc := vj_getf G lkC_1 clC_7 inC_7 (j := 6) (by decide) q_171 rfl (fvs_get flC_7_6) hdg kk
theorem gfC_U_113 {w : Wd} {X : Cx} {cc : ByteArray} {nL fr lo t pc : Nat} {r : Int} {M1 M : Mm} {lv : List (Nat × Value)} {st : List Value} (G : Gc LC w X "WhoRules$Rule" cc nL fr lo) (hdg : decode cc pc = .ok (.getfield 113, 3)) (kk : VJ LC w X nL t r M1 M lv (.ref (wa w 22) :: st) (pc + 3)) : VJ LC w X nL t r M1 M lv (.ref (wa w 1) :: st) pc := vj_getf G lkC_1 clC_7 inC_7 (j := 11) (by decide) q_188 rfl (fvs_get flC_7_11) hdg kk
theorem gfC_U_129 {w : Wd} {X : Cx} {cc : ByteArray} {nL fr lo t pc : Nat} {r : Int} {M1 M : Mm} {lv : List (Nat × Value)} {st : List Value} (G : Gc LC w X "WhoRules$Rule" cc nL fr lo) (hdg : decode cc pc = .ok (.getfield 129, 3)) (kk : VJ LC w X nL t r M1 M lv (.int (i32 (M 1 1)) :: st) (pc + 3)) : VJ LC w X nL t r M1 M lv (.ref (wa w 1) :: st) pc := vj_getf G lkC_1 clC_7 inC_7 (j := 1) (by decide) q_152 rfl (fvs_get flC_7_1) hdg kk
theorem gfC_U_137 {w : Wd} {X : Cx} {cc : ByteArray} {nL fr lo t pc : Nat} {r : Int} {M1 M : Mm} {lv : List (Nat × Value)} {st : List Value} (G : Gc LC w X "WhoRules$Rule" cc nL fr lo) (hdg : decode cc pc = .ok (.getfield 137, 3)) (kk : VJ LC w X nL t r M1 M lv (.int (i32 (M 3 13)) :: st) (pc + 3)) : VJ LC w X nL t r M1 M lv (.ref (wa w 3) :: st) pc := vj_getf G lkC_3 clC_9 inC_9 (j := 13) (by decide) q_327 rfl (fvs_get flC_9_13) hdg kk
theorem gfC_U_143 {w : Wd} {X : Cx} {cc : ByteArray} {nL fr lo t pc : Nat} {r : Int} {M1 M : Mm} {lv : List (Nat × Value)} {st : List Value} (G : Gc LC w X "WhoRules$Rule" cc nL fr lo) (hdg : decode cc pc = .ok (.getfield 143, 3)) (kk : VJ LC w X nL t r M1 M lv (.ref (wa w 18) :: st) (pc + 3)) : VJ LC w X nL t r M1 M lv (.ref (wa w 1) :: st) pc := vj_getf G lkC_1 clC_7 inC_7 (j := 7) (by decide) q_174 rfl (fvs_get flC_7_7) hdg kk
theorem gfC_U_171 {w : Wd} {X : Cx} {cc : ByteArray} {nL fr lo t pc : Nat} {r : Int} {M1 M : Mm} {lv : List (Nat × Value)} {st : List Value} (G : Gc LC w X "WhoRules$Rule" cc nL fr lo) (hdg : decode cc pc = .ok (.getfield 171, 3)) (kk : VJ LC w X nL t r M1 M lv (.int (i32 (M 1 3)) :: st) (pc + 3)) : VJ LC w X nL t r M1 M lv (.ref (wa w 1) :: st) pc := vj_getf G lkC_1 clC_7 inC_7 (j := 3) (by decide) q_162 rfl (fvs_get flC_7_3) hdg kk
theorem gfC_U_174 {w : Wd} {X : Cx} {cc : ByteArray} {nL fr lo t pc : Nat} {r : Int} {M1 M : Mm} {lv : List (Nat × Value)} {st : List Value} (G : Gc LC w X "WhoRules$Rule" cc nL fr lo) (hdg : decode cc pc = .ok (.getfield 174, 3)) (kk : VJ LC w X nL t r M1 M lv (.ref (wa w 20) :: st) (pc + 3)) : VJ LC w X nL t r M1 M lv (.ref (wa w 1) :: st) pc := vj_getf G lkC_1 clC_7 inC_7 (j := 9) (by decide) q_181 rfl (fvs_get flC_7_9) hdg kk
theorem gfC_S_11 {w : Wd} {X : Cx} {cc : ByteArray} {nL fr lo t pc : Nat} {r : Int} {M1 M : Mm} {lv : List (Nat × Value)} {st : List Value} (G : Gc LC w X "WhoRules$Search" cc nL fr lo) (hdg : decode cc pc = .ok (.getfield 11, 3)) (kk : VJ LC w X nL t r M1 M lv (.ref (wa w 48) :: st) (pc + 3)) : VJ LC w X nL t r M1 M lv (.ref (wa w 4) :: st) pc := vj_getf G lkC_4 clC_10 inC_10 (j := 2) (by decide) q_367 rfl (fvs_get flC_10_2) hdg kk
theorem gfC_S_17 {w : Wd} {X : Cx} {cc : ByteArray} {nL fr lo t pc : Nat} {r : Int} {M1 M : Mm} {lv : List (Nat × Value)} {st : List Value} (G : Gc LC w X "WhoRules$Search" cc nL fr lo) (hdg : decode cc pc = .ok (.getfield 17, 3)) (kk : VJ LC w X nL t r M1 M lv (.ref (wa w 49) :: st) (pc + 3)) : VJ LC w X nL t r M1 M lv (.ref (wa w 4) :: st) pc := vj_getf G lkC_4 clC_10 inC_10 (j := 4) (by decide) q_369 rfl (fvs_get flC_10_4) hdg kk
theorem gfC_S_20 {w : Wd} {X : Cx} {cc : ByteArray} {nL fr lo t pc : Nat} {r : Int} {M1 M : Mm} {lv : List (Nat × Value)} {st : List Value} (G : Gc LC w X "WhoRules$Search" cc nL fr lo) (hdg : decode cc pc = .ok (.getfield 20, 3)) (kk : VJ LC w X nL t r M1 M lv (.ref (wa w 50) :: st) (pc + 3)) : VJ LC w X nL t r M1 M lv (.ref (wa w 4) :: st) pc := vj_getf G lkC_4 clC_10 inC_10 (j := 5) (by decide) q_370 rfl (fvs_get flC_10_5) hdg kk
theorem gfC_S_23 {w : Wd} {X : Cx} {cc : ByteArray} {nL fr lo t pc : Nat} {r : Int} {M1 M : Mm} {lv : List (Nat × Value)} {st : List Value} (G : Gc LC w X "WhoRules$Search" cc nL fr lo) (hdg : decode cc pc = .ok (.getfield 23, 3)) (kk : VJ LC w X nL t r M1 M lv (.ref (wa w 51) :: st) (pc + 3)) : VJ LC w X nL t r M1 M lv (.ref (wa w 4) :: st) pc := vj_getf G lkC_4 clC_10 inC_10 (j := 6) (by decide) q_371 rfl (fvs_get flC_10_6) hdg kk
theorem gfC_S_26 {w : Wd} {X : Cx} {cc : ByteArray} {nL fr lo t pc : Nat} {r : Int} {M1 M : Mm} {lv : List (Nat × Value)} {st : List Value} (G : Gc LC w X "WhoRules$Search" cc nL fr lo) (hdg : decode cc pc = .ok (.getfield 26, 3)) (kk : VJ LC w X nL t r M1 M lv (.ref (wa w 52) :: st) (pc + 3)) : VJ LC w X nL t r M1 M lv (.ref (wa w 4) :: st) pc := vj_getf G lkC_4 clC_10 inC_10 (j := 7) (by decide) q_372 rfl (fvs_get flC_10_7) hdg kk
theorem gfC_S_29 {w : Wd} {X : Cx} {cc : ByteArray} {nL fr lo t pc : Nat} {r : Int} {M1 M : Mm} {lv : List (Nat × Value)} {st : List Value} (G : Gc LC w X "WhoRules$Search" cc nL fr lo) (hdg : decode cc pc = .ok (.getfield 29, 3)) (kk : VJ LC w X nL t r M1 M lv (.ref (wa w 53) :: st) (pc + 3)) : VJ LC w X nL t r M1 M lv (.ref (wa w 4) :: st) pc := vj_getf G lkC_4 clC_10 inC_10 (j := 8) (by decide) q_373 rfl (fvs_get flC_10_8) hdg kk
theorem gfC_S_32 {w : Wd} {X : Cx} {cc : ByteArray} {nL fr lo t pc : Nat} {r : Int} {M1 M : Mm} {lv : List (Nat × Value)} {st : List Value} (G : Gc LC w X "WhoRules$Search" cc nL fr lo) (hdg : decode cc pc = .ok (.getfield 32, 3)) (kk : VJ LC w X nL t r M1 M lv (.ref (wa w 54) :: st) (pc + 3)) : VJ LC w X nL t r M1 M lv (.ref (wa w 4) :: st) pc := vj_getf G lkC_4 clC_10 inC_10 (j := 9) (by decide) q_374 rfl (fvs_get flC_10_9) hdg kk
theorem gfC_S_35 {w : Wd} {X : Cx} {cc : ByteArray} {nL fr lo t pc : Nat} {r : Int} {M1 M : Mm} {lv : List (Nat × Value)} {st : List Value} (G : Gc LC w X "WhoRules$Search" cc nL fr lo) (hdg : decode cc pc = .ok (.getfield 35, 3)) (kk : VJ LC w X nL t r M1 M lv (.ref (wa w 55) :: st) (pc + 3)) : VJ LC w X nL t r M1 M lv (.ref (wa w 4) :: st) pc := vj_getf G lkC_4 clC_10 inC_10 (j := 10) (by decide) q_375 rfl (fvs_get flC_10_10) hdg kk
theorem gfC_S_38 {w : Wd} {X : Cx} {cc : ByteArray} {nL fr lo t pc : Nat} {r : Int} {M1 M : Mm} {lv : List (Nat × Value)} {st : List Value} (G : Gc LC w X "WhoRules$Search" cc nL fr lo) (hdg : decode cc pc = .ok (.getfield 38, 3)) (kk : VJ LC w X nL t r M1 M lv (.ref (wa w 1) :: st) (pc + 3)) : VJ LC w X nL t r M1 M lv (.ref (wa w 4) :: st) pc := vj_getf G lkC_4 clC_10 inC_10 (j := 0) (by decide) q_365 rfl (fvs_get flC_10_0) hdg kk
theorem gfC_S_42 {w : Wd} {X : Cx} {cc : ByteArray} {nL fr lo t pc : Nat} {r : Int} {M1 M : Mm} {lv : List (Nat × Value)} {st : List Value} (G : Gc LC w X "WhoRules$Search" cc nL fr lo) (hdg : decode cc pc = .ok (.getfield 42, 3)) (kk : VJ LC w X nL t r M1 M lv (.ref (wa w 3) :: st) (pc + 3)) : VJ LC w X nL t r M1 M lv (.ref (wa w 4) :: st) pc := vj_getf G lkC_4 clC_10 inC_10 (j := 1) (by decide) q_366 rfl (fvs_get flC_10_1) hdg kk
theorem gfC_S_49 {w : Wd} {X : Cx} {cc : ByteArray} {nL fr lo t pc : Nat} {r : Int} {M1 M : Mm} {lv : List (Nat × Value)} {st : List Value} (G : Gc LC w X "WhoRules$Search" cc nL fr lo) (hdg : decode cc pc = .ok (.getfield 49, 3)) (kk : VJ LC w X nL t r M1 M lv (.int (i32 (M 1 2)) :: st) (pc + 3)) : VJ LC w X nL t r M1 M lv (.ref (wa w 1) :: st) pc := vj_getf G lkC_1 clC_7 inC_7 (j := 2) (by decide) q_156 rfl (fvs_get flC_7_2) hdg kk
theorem gfC_S_55 {w : Wd} {X : Cx} {cc : ByteArray} {nL fr lo t pc : Nat} {r : Int} {M1 M : Mm} {lv : List (Nat × Value)} {st : List Value} (G : Gc LC w X "WhoRules$Search" cc nL fr lo) (hdg : decode cc pc = .ok (.getfield 55, 3)) (kk : VJ LC w X nL t r M1 M lv (.int (i32 (M 1 3)) :: st) (pc + 3)) : VJ LC w X nL t r M1 M lv (.ref (wa w 1) :: st) pc := vj_getf G lkC_1 clC_7 inC_7 (j := 3) (by decide) q_160 rfl (fvs_get flC_7_3) hdg kk
theorem gfC_S_78 {w : Wd} {X : Cx} {cc : ByteArray} {nL fr lo t pc : Nat} {r : Int} {M1 M : Mm} {lv : List (Nat × Value)} {st : List Value} (G : Gc LC w X "WhoRules$Search" cc nL fr lo) (hdg : decode cc pc = .ok (.getfield 78, 3)) (kk : VJ LC w X nL t r M1 M lv (.ref (wa w 19) :: st) (pc + 3)) : VJ LC w X nL t r M1 M lv (.ref (wa w 1) :: st) pc := vj_getf G lkC_1 clC_7 inC_7 (j := 8) (by decide) q_178 rfl (fvs_get flC_7_8) hdg kk
theorem gfC_S_81 {w : Wd} {X : Cx} {cc : ByteArray} {nL fr lo t pc : Nat} {r : Int} {M1 M : Mm} {lv : List (Nat × Value)} {st : List Value} (G : Gc LC w X "WhoRules$Search" cc nL fr lo) (hdg : decode cc pc = .ok (.getfield 81, 3)) (kk : VJ LC w X nL t r M1 M lv (.ref (wa w 20) :: st) (pc + 3)) : VJ LC w X nL t r M1 M lv (.ref (wa w 1) :: st) pc := vj_getf G lkC_1 clC_7 inC_7 (j := 9) (by decide) q_180 rfl (fvs_get flC_7_9) hdg kk
theorem gfC_S_88 {w : Wd} {X : Cx} {cc : ByteArray} {nL fr lo t pc : Nat} {r : Int} {M1 M : Mm} {lv : List (Nat × Value)} {st : List Value} (G : Gc LC w X "WhoRules$Search" cc nL fr lo) (hdg : decode cc pc = .ok (.getfield 88, 3)) (kk : VJ LC w X nL t r M1 M lv (.ref (wa w 43) :: st) (pc + 3)) : VJ LC w X nL t r M1 M lv (.ref (wa w 3) :: st) pc := vj_getf G lkC_3 clC_9 inC_9 (j := 8) (by decide) q_317 rfl (fvs_get flC_9_8) hdg kk
theorem gfC_S_91 {w : Wd} {X : Cx} {cc : ByteArray} {nL fr lo t pc : Nat} {r : Int} {M1 M : Mm} {lv : List (Nat × Value)} {st : List Value} (G : Gc LC w X "WhoRules$Search" cc nL fr lo) (hdg : decode cc pc = .ok (.getfield 91, 3)) (kk : VJ LC w X nL t r M1 M lv (.ref (wa w 45) :: st) (pc + 3)) : VJ LC w X nL t r M1 M lv (.ref (wa w 3) :: st) pc := vj_getf G lkC_3 clC_9 inC_9 (j := 10) (by decide) q_321 rfl (fvs_get flC_9_10) hdg kk
theorem gfC_S_94 {w : Wd} {X : Cx} {cc : ByteArray} {nL fr lo t pc : Nat} {r : Int} {M1 M : Mm} {lv : List (Nat × Value)} {st : List Value} (G : Gc LC w X "WhoRules$Search" cc nL fr lo) (hdg : decode cc pc = .ok (.getfield 94, 3)) (kk : VJ LC w X nL t r M1 M lv (.ref (wa w 46) :: st) (pc + 3)) : VJ LC w X nL t r M1 M lv (.ref (wa w 3) :: st) pc := vj_getf G lkC_3 clC_9 inC_9 (j := 11) (by decide) q_324 rfl (fvs_get flC_9_11) hdg kk
theorem gfC_S_97 {w : Wd} {X : Cx} {cc : ByteArray} {nL fr lo t pc : Nat} {r : Int} {M1 M : Mm} {lv : List (Nat × Value)} {st : List Value} (G : Gc LC w X "WhoRules$Search" cc nL fr lo) (hdg : decode cc pc = .ok (.getfield 97, 3)) (kk : VJ LC w X nL t r M1 M lv (.ref (wa w 42) :: st) (pc + 3)) : VJ LC w X nL t r M1 M lv (.ref (wa w 3) :: st) pc := vj_getf G lkC_3 clC_9 inC_9 (j := 7) (by decide) q_314 rfl (fvs_get flC_9_7) hdg kk
theorem gfC_S_100 {w : Wd} {X : Cx} {cc : ByteArray} {nL fr lo t pc : Nat} {r : Int} {M1 M : Mm} {lv : List (Nat × Value)} {st : List Value} (G : Gc LC w X "WhoRules$Search" cc nL fr lo) (hdg : decode cc pc = .ok (.getfield 100, 3)) (kk : VJ LC w X nL t r M1 M lv (.ref (wa w 44) :: st) (pc + 3)) : VJ LC w X nL t r M1 M lv (.ref (wa w 3) :: st) pc := vj_getf G lkC_3 clC_9 inC_9 (j := 9) (by decide) q_319 rfl (fvs_get flC_9_9) hdg kk
theorem gfC_S_122 {w : Wd} {X : Cx} {cc : ByteArray} {nL fr lo t pc : Nat} {r : Int} {M1 M : Mm} {lv : List (Nat × Value)} {st : List Value} (G : Gc LC w X "WhoRules$Search" cc nL fr lo) (hdg : decode cc pc = .ok (.getfield 122, 3)) (kk : VJ LC w X nL t r M1 M lv (.int (i32 (M 1 0)) :: st) (pc + 3)) : VJ LC w X nL t r M1 M lv (.ref (wa w 1) :: st) pc := vj_getf G lkC_1 clC_7 inC_7 (j := 0) (by decide) q_148 rfl (fvs_get flC_7_0) hdg kk
theorem gfC_S_140 {w : Wd} {X : Cx} {cc : ByteArray} {nL fr lo t pc : Nat} {r : Int} {M1 M : Mm} {lv : List (Nat × Value)} {st : List Value} (G : Gc LC w X "WhoRules$Search" cc nL fr lo) (hdg : decode cc pc = .ok (.getfield 140, 3)) (kk : VJ LC w X nL t r M1 M lv (.int (i32 (M 4 11)) :: st) (pc + 3)) : VJ LC w X nL t r M1 M lv (.ref (wa w 4) :: st) pc := vj_getf G lkC_4 clC_10 inC_10 (j := 11) (by decide) q_376 rfl (fvs_get flC_10_11) hdg kk
theorem gfC_S_147 {w : Wd} {X : Cx} {cc : ByteArray} {nL fr lo t pc : Nat} {r : Int} {M1 M : Mm} {lv : List (Nat × Value)} {st : List Value} (G : Gc LC w X "WhoRules$Search" cc nL fr lo) (hdg : decode cc pc = .ok (.getfield 147, 3)) (kk : VJ LC w X nL t r M1 M lv (.int (i32 (M 1 1)) :: st) (pc + 3)) : VJ LC w X nL t r M1 M lv (.ref (wa w 1) :: st) pc := vj_getf G lkC_1 clC_7 inC_7 (j := 1) (by decide) q_153 rfl (fvs_get flC_7_1) hdg kk
theorem gfC_S_154 {w : Wd} {X : Cx} {cc : ByteArray} {nL fr lo t pc : Nat} {r : Int} {M1 M : Mm} {lv : List (Nat × Value)} {st : List Value} (G : Gc LC w X "WhoRules$Search" cc nL fr lo) (hdg : decode cc pc = .ok (.getfield 154, 3)) (kk : VJ LC w X nL t r M1 M lv (.int (i32 (M 4 3)) :: st) (pc + 3)) : VJ LC w X nL t r M1 M lv (.ref (wa w 4) :: st) pc := vj_getf G lkC_4 clC_10 inC_10 (j := 3) (by decide) q_368 rfl (fvs_get flC_10_3) hdg kk
theorem gfC_S_176 {w : Wd} {X : Cx} {cc : ByteArray} {nL fr lo t pc : Nat} {r : Int} {M1 M : Mm} {lv : List (Nat × Value)} {st : List Value} (G : Gc LC w X "WhoRules$Search" cc nL fr lo) (hdg : decode cc pc = .ok (.getfield 176, 3)) (kk : VJ LC w X nL t r M1 M lv (.int (i32 (M 1 4)) :: st) (pc + 3)) : VJ LC w X nL t r M1 M lv (.ref (wa w 1) :: st) pc := vj_getf G lkC_1 clC_7 inC_7 (j := 4) (by decide) q_167 rfl (fvs_get flC_7_4) hdg kk
theorem gfC_S_179 {w : Wd} {X : Cx} {cc : ByteArray} {nL fr lo t pc : Nat} {r : Int} {M1 M : Mm} {lv : List (Nat × Value)} {st : List Value} (G : Gc LC w X "WhoRules$Search" cc nL fr lo) (hdg : decode cc pc = .ok (.getfield 179, 3)) (kk : VJ LC w X nL t r M1 M lv (.ref (wa w 24) :: st) (pc + 3)) : VJ LC w X nL t r M1 M lv (.ref (wa w 1) :: st) pc := vj_getf G lkC_1 clC_7 inC_7 (j := 13) (by decide) q_196 rfl (fvs_get flC_7_13) hdg kk
theorem gfC_S_182 {w : Wd} {X : Cx} {cc : ByteArray} {nL fr lo t pc : Nat} {r : Int} {M1 M : Mm} {lv : List (Nat × Value)} {st : List Value} (G : Gc LC w X "WhoRules$Search" cc nL fr lo) (hdg : decode cc pc = .ok (.getfield 182, 3)) (kk : VJ LC w X nL t r M1 M lv (.ref (wa w 25) :: st) (pc + 3)) : VJ LC w X nL t r M1 M lv (.ref (wa w 1) :: st) pc := vj_getf G lkC_1 clC_7 inC_7 (j := 14) (by decide) q_201 rfl (fvs_get flC_7_14) hdg kk
theorem gfC_S_203 {w : Wd} {X : Cx} {cc : ByteArray} {nL fr lo t pc : Nat} {r : Int} {M1 M : Mm} {lv : List (Nat × Value)} {st : List Value} (G : Gc LC w X "WhoRules$Search" cc nL fr lo) (hdg : decode cc pc = .ok (.getfield 203, 3)) (kk : VJ LC w X nL t r M1 M lv (.ref (wa w 22) :: st) (pc + 3)) : VJ LC w X nL t r M1 M lv (.ref (wa w 1) :: st) pc := vj_getf G lkC_1 clC_7 inC_7 (j := 11) (by decide) q_190 rfl (fvs_get flC_7_11) hdg kk
theorem pfC_W_79 {w : Wd} {X : Cx} {cc : ByteArray} {nL fr lo t pc : Nat} {r : Int} {M1 M : Mm} {lv : List (Nat × Value)} {st : List Value} (G : Gc LC w X "WhoRules" cc nL fr lo) {v : Int} (hv : inR v) (hdg : decode cc pc = .ok (.putfield 79, 3)) (kk : VJ LC w X nL t r M1 (mset M 1 0 v) lv st (pc + 3)) : VJ LC w X nL t r M1 M lv (.int (i32 v) :: .ref (wa w 1) :: st) pc := vj_putf G lkC_1 (by decide) (by decide) clC_7 inC_7 toC_7 nmC_7 (j := 0) (by decide) q_147 rfl rfl (ty := .int) (by decide +kernel) rfl rfl rfl (fun c hc => by cases hc; rfl) hv hdg kk
theorem pfC_W_258 {w : Wd} {X : Cx} {cc : ByteArray} {nL fr lo t pc : Nat} {r : Int} {M1 M : Mm} {lv : List (Nat × Value)} {st : List Value} (G : Gc LC w X "WhoRules" cc nL fr lo) {v : Int} (hv : inR v) (hdg : decode cc pc = .ok (.putfield 258, 3)) (kk : VJ LC w X nL t r M1 (mset M 0 8 v) lv st (pc + 3)) : VJ LC w X nL t r M1 M lv (.int (i32 v) :: .ref (wa w 0) :: st) pc := vj_putf G lkC_0 (by decide) (by decide) clC_6 inC_6 toC_6 nmC_6 (j := 8) (by decide) q_458 rfl rfl (ty := .int) (by decide +kernel) rfl rfl rfl (fun c hc => by cases hc; rfl) hv hdg kk
theorem pfC_C_37 {w : Wd} {X : Cx} {cc : ByteArray} {nL fr lo t pc : Nat} {r : Int} {M1 M : Mm} {lv : List (Nat × Value)} {st : List Value} (G : Gc LC w X "WhoRules$Charters" cc nL fr lo) {v : Int} (hv : inR v) (hdg : decode cc pc = .ok (.putfield 37, 3)) (kk : VJ LC w X nL t r M1 (mset M 2 1 v) lv st (pc + 3)) : VJ LC w X nL t r M1 M lv (.int (i32 v) :: .ref (wa w 2) :: st) pc := vj_putf G lkC_2 (by decide) (by decide) clC_8 inC_8 toC_8 nmC_8 (j := 1) (by decide) q_259 rfl rfl (ty := .int) (by decide +kernel) rfl rfl rfl (fun c hc => by cases hc; rfl) hv hdg kk
theorem pfC_C_41 {w : Wd} {X : Cx} {cc : ByteArray} {nL fr lo t pc : Nat} {r : Int} {M1 M : Mm} {lv : List (Nat × Value)} {st : List Value} (G : Gc LC w X "WhoRules$Charters" cc nL fr lo) {v : Int} (hv : inR v) (hdg : decode cc pc = .ok (.putfield 41, 3)) (kk : VJ LC w X nL t r M1 (mset M 2 3 v) lv st (pc + 3)) : VJ LC w X nL t r M1 M lv (.int (i32 v) :: .ref (wa w 2) :: st) pc := vj_putf G lkC_2 (by decide) (by decide) clC_8 inC_8 toC_8 nmC_8 (j := 3) (by decide) q_262 rfl rfl (ty := .int) (by decide +kernel) rfl rfl rfl (fun c hc => by cases hc; rfl) hv hdg kk
theorem pfC_C_44 {w : Wd} {X : Cx} {cc : ByteArray} {nL fr lo t pc : Nat} {r : Int} {M1 M : Mm} {lv : List (Nat × Value)} {st : List Value} (G : Gc LC w X "WhoRules$Charters" cc nL fr lo) {v : Int} (hv : inR v) (hdg : decode cc pc = .ok (.putfield 44, 3)) (kk : VJ LC w X nL t r M1 (mset M 2 0 v) lv st (pc + 3)) : VJ LC w X nL t r M1 M lv (.int (i32 v) :: .ref (wa w 2) :: st) pc := vj_putf G lkC_2 (by decide) (by decide) clC_8 inC_8 toC_8 nmC_8 (j := 0) (by decide) q_257 rfl rfl (ty := .int) (by decide +kernel) rfl rfl rfl (fun c hc => by cases hc; rfl) hv hdg kk
theorem pfC_C_47 {w : Wd} {X : Cx} {cc : ByteArray} {nL fr lo t pc : Nat} {r : Int} {M1 M : Mm} {lv : List (Nat × Value)} {st : List Value} (G : Gc LC w X "WhoRules$Charters" cc nL fr lo) {v : Int} (hv : inR v) (hdg : decode cc pc = .ok (.putfield 47, 3)) (kk : VJ LC w X nL t r M1 (mset M 2 11 v) lv st (pc + 3)) : VJ LC w X nL t r M1 M lv (.int (i32 v) :: .ref (wa w 2) :: st) pc := vj_putf G lkC_2 (by decide) (by decide) clC_8 inC_8 toC_8 nmC_8 (j := 11) (by decide) q_270 rfl rfl (ty := .int) (by decide +kernel) rfl rfl rfl (fun c hc => by cases hc; rfl) hv hdg kk
theorem pfC_F_92 {w : Wd} {X : Cx} {cc : ByteArray} {nL fr lo t pc : Nat} {r : Int} {M1 M : Mm} {lv : List (Nat × Value)} {st : List Value} (G : Gc LC w X "WhoRules$Flow" cc nL fr lo) {v : Int} (hv : in64 v) (hdg : decode cc pc = .ok (.putfield 92, 3)) (kk : VJ LC w X nL t r M1 (mset M 5 8 v) lv st (pc + 3)) : VJ LC w X nL t r M1 M lv (.long (i64 v) :: .ref (wa w 5) :: st) pc := vj_putf G lkC_5 (by decide) (by decide) clC_11 inC_11 toC_11 nmC_11 (j := 8) (by decide) q_420 rfl rfl (ty := .long) (by decide +kernel) rfl rfl rfl (fun c hc => by cases hc; rfl) hv hdg kk
theorem pfC_F_96 {w : Wd} {X : Cx} {cc : ByteArray} {nL fr lo t pc : Nat} {r : Int} {M1 M : Mm} {lv : List (Nat × Value)} {st : List Value} (G : Gc LC w X "WhoRules$Flow" cc nL fr lo) {v : Int} (hv : in64 v) (hdg : decode cc pc = .ok (.putfield 96, 3)) (kk : VJ LC w X nL t r M1 (mset M 5 9 v) lv st (pc + 3)) : VJ LC w X nL t r M1 M lv (.long (i64 v) :: .ref (wa w 5) :: st) pc := vj_putf G lkC_5 (by decide) (by decide) clC_11 inC_11 toC_11 nmC_11 (j := 9) (by decide) q_422 rfl rfl (ty := .long) (by decide +kernel) rfl rfl rfl (fun c hc => by cases hc; rfl) hv hdg kk
theorem pfC_R_68 {w : Wd} {X : Cx} {cc : ByteArray} {nL fr lo t pc : Nat} {r : Int} {M1 M : Mm} {lv : List (Nat × Value)} {st : List Value} (G : Gc LC w X "WhoRules$Register" cc nL fr lo) {v : Int} (hv : inR v) (hdg : decode cc pc = .ok (.putfield 68, 3)) (kk : VJ LC w X nL t r M1 (mset M 1 4 v) lv st (pc + 3)) : VJ LC w X nL t r M1 M lv (.int (i32 v) :: .ref (wa w 1) :: st) pc := vj_putf G lkC_1 (by decide) (by decide) clC_7 inC_7 toC_7 nmC_7 (j := 4) (by decide) q_166 rfl rfl (ty := .int) (by decide +kernel) rfl rfl rfl (fun c hc => by cases hc; rfl) hv hdg kk
theorem pfC_R_115 {w : Wd} {X : Cx} {cc : ByteArray} {nL fr lo t pc : Nat} {r : Int} {M1 M : Mm} {lv : List (Nat × Value)} {st : List Value} (G : Gc LC w X "WhoRules$Register" cc nL fr lo) {v : Int} (hv : inR v) (hdg : decode cc pc = .ok (.putfield 115, 3)) (kk : VJ LC w X nL t r M1 (mset M 1 16 v) lv st (pc + 3)) : VJ LC w X nL t r M1 M lv (.int (i32 v) :: .ref (wa w 1) :: st) pc := vj_putf G lkC_1 (by decide) (by decide) clC_7 inC_7 toC_7 nmC_7 (j := 16) (by decide) q_205 rfl rfl (ty := .int) (by decide +kernel) rfl rfl rfl (fun c hc => by cases hc; rfl) hv hdg kk
theorem pfC_U_54 {w : Wd} {X : Cx} {cc : ByteArray} {nL fr lo t pc : Nat} {r : Int} {M1 M : Mm} {lv : List (Nat × Value)} {st : List Value} (G : Gc LC w X "WhoRules$Rule" cc nL fr lo) {v : Int} (hv : inR v) (hdg : decode cc pc = .ok (.putfield 54, 3)) (kk : VJ LC w X nL t r M1 (mset M 3 2 v) lv st (pc + 3)) : VJ LC w X nL t r M1 M lv (.int (i32 v) :: .ref (wa w 3) :: st) pc := vj_putf G lkC_3 (by decide) (by decide) clC_9 inC_9 toC_9 nmC_9 (j := 2) (by decide) q_307 rfl rfl (ty := .int) (by decide +kernel) rfl rfl rfl (fun c hc => by cases hc; rfl) hv hdg kk
theorem pfC_U_137 {w : Wd} {X : Cx} {cc : ByteArray} {nL fr lo t pc : Nat} {r : Int} {M1 M : Mm} {lv : List (Nat × Value)} {st : List Value} (G : Gc LC w X "WhoRules$Rule" cc nL fr lo) {v : Int} (hv : inR v) (hdg : decode cc pc = .ok (.putfield 137, 3)) (kk : VJ LC w X nL t r M1 (mset M 3 13 v) lv st (pc + 3)) : VJ LC w X nL t r M1 M lv (.int (i32 v) :: .ref (wa w 3) :: st) pc := vj_putf G lkC_3 (by decide) (by decide) clC_9 inC_9 toC_9 nmC_9 (j := 13) (by decide) q_327 rfl rfl (ty := .int) (by decide +kernel) rfl rfl rfl (fun c hc => by cases hc; rfl) hv hdg kk
theorem pfC_S_140 {w : Wd} {X : Cx} {cc : ByteArray} {nL fr lo t pc : Nat} {r : Int} {M1 M : Mm} {lv : List (Nat × Value)} {st : List Value} (G : Gc LC w X "WhoRules$Search" cc nL fr lo) {v : Int} (hv : inR v) (hdg : decode cc pc = .ok (.putfield 140, 3)) (kk : VJ LC w X nL t r M1 (mset M 4 11 v) lv st (pc + 3)) : VJ LC w X nL t r M1 M lv (.int (i32 v) :: .ref (wa w 4) :: st) pc := vj_putf G lkC_4 (by decide) (by decide) clC_10 inC_10 toC_10 nmC_10 (j := 11) (by decide) q_376 rfl rfl (ty := .int) (by decide +kernel) rfl rfl rfl (fun c hc => by cases hc; rfl) hv hdg kk
theorem pfC_S_154 {w : Wd} {X : Cx} {cc : ByteArray} {nL fr lo t pc : Nat} {r : Int} {M1 M : Mm} {lv : List (Nat × Value)} {st : List Value} (G : Gc LC w X "WhoRules$Search" cc nL fr lo) {v : Int} (hv : inR v) (hdg : decode cc pc = .ok (.putfield 154, 3)) (kk : VJ LC w X nL t r M1 (mset M 4 3 v) lv st (pc + 3)) : VJ LC w X nL t r M1 M lv (.int (i32 v) :: .ref (wa w 4) :: st) pc := vj_putf G lkC_4 (by decide) (by decide) clC_10 inC_10 toC_10 nmC_10 (j := 3) (by decide) q_368 rfl rfl (ty := .int) (by decide +kernel) rfl rfl rfl (fun c hc => by cases hc; rfl) hv hdg kk
