/-! Register.made. -/
theorem qn_502 : Cond.classLink "WhoRules$Register" 88 "WhoRules$Firm" ∈ ALL := all_in 502 (by decide +kernel) rfl
theorem qn_503 : Cond.instantiable "WhoRules$Firm" 3 ∈ ALL := all_in 503 (by decide +kernel) rfl
theorem qn_526 : Cond.classLink "WhoRules$Register" 93 "WhoRules$Person" ∈ ALL := all_in 526 (by decide +kernel) rfl
theorem qn_527 : Cond.instantiable "WhoRules$Person" 3 ∈ ALL := all_in 527 (by decide +kernel) rfl
theorem qn_536 : Cond.classLink "WhoRules$Register" 98 "WhoRules$Kin" ∈ ALL := all_in 536 (by decide +kernel) rfl
theorem qn_537 : Cond.instantiable "WhoRules$Kin" 3 ∈ ALL := all_in 537 (by decide +kernel) rfl
theorem qn_546 : Cond.classLink "WhoRules$Register" 101 "WhoRules$Fund" ∈ ALL := all_in 546 (by decide +kernel) rfl
theorem qn_547 : Cond.instantiable "WhoRules$Fund" 3 ∈ ALL := all_in 547 (by decide +kernel) rfl
theorem qn_556 : Cond.classLink "WhoRules$Register" 104 "WhoRules$Club" ∈ ALL := all_in 556 (by decide +kernel) rfl
theorem qn_557 : Cond.instantiable "WhoRules$Club" 3 ∈ ALL := all_in 557 (by decide +kernel) rfl
theorem qn_144 : Cond.classLink "WhoRules$Register" 9 "WhoRules$Holder" ∈ ALL := all_in 144 (by decide +kernel) rfl
theorem qn_566 : Cond.instantiable "WhoRules$Holder" 3 ∈ ALL := all_in 566 (by decide +kernel) rfl
theorem HT_0 : HT T_H := ⟨rfl, rfl, rfl⟩
theorem HT_1 : HT T_Hf := ⟨rfl, rfl, rfl⟩
theorem HT_2 : HT T_Hp := ⟨rfl, rfl, rfl⟩
theorem HT_3 : HT T_Hk := ⟨rfl, rfl, rfl⟩
theorem HT_4 : HT T_Hu := ⟨rfl, rfl, rfl⟩
theorem HT_5 : HT T_Hc := ⟨rfl, rfl, rfl⟩
section
variable {w : Wd} {M : Mm} {c : Nat}
def GmX (c : Nat) (w : Wd) (X : Cx) : Prop := Gn LHy (LHd c 1) w X "WhoRules$Register" b_R_made 4 4 1 3 89 (some (.object "WhoRules$Holder")) "made"
theorem made_aw {X : Cx} (G9 : GmX c w X) : ∀ q, Aw (LHd c 1) w q → xA X q := fun q h => by rw [G9.2.2.1]; exact h
theorem made_aw2 {X : Cx} (G9 : GmX c w X) : ∀ q, Aw (LHd c 1) w q → xA (xInc X 1 3) q := fun q h => by
  show xA X q
  exact made_aw G9 q h
theorem made_gc {X : Cx} (hij : ij (LHd c 0) w) (G9 : GmX c w X) : Gc (LHd c 0) w (xInc X 1 3) "WhoRules$Register" b_R_made 4 4 89 :=
  hy_gc G9.1 hij (made_aw G9) (by rw [G9.2.2.2.1, G9.2.2.2.2.2.1]; exact Nat.le_refl _) (by rw [G9.2.2.2.2.1, G9.2.2.2.2.2.2.1]; exact Nat.le_refl _)
theorem made_end {X : Cx} (hij : ij (LHd c 0) w) (G9 : GmX c w X) {lv : List (Nat × Value)} {pc : Nat} (hdg : decode b_R_made pc = .ok (.areturn, 1)) : VJ (LHd c 1) w (xInc (xInc X 1 3) 0 0) 4 5 600 M M lv [.ref (wa w 600)] pc := by
  have G := made_gc hij G9
  have e1 : xcn X + 1 ≤ (xR X).cells := by rw [G9.2.2.2.1, G9.2.2.2.2.2.1]; exact Nat.le_refl _
  have e2 : xsn X + 3 ≤ (xR X).slots := by rw [G9.2.2.2.2.1, G9.2.2.2.2.2.2.1]; exact Nat.le_refl _
  have G1 : Gc (LHd c 1) w (xInc (xInc X 1 3) 0 0) "WhoRules$Register" b_R_made 4 4 89 := grow_gc (L' := LHd c 1) (a := 0) (b := 0) G rfl hij (KstH c 1) (by have := G.2.2.2.2.2.2.1; exact this) (made_aw2 G9) (fun q h => h) e1 e2
  refine vj_aret5 (v := 600) (C := "WhoRules$Holder") ⟨G1, G9.2.1, G9.2.2.1, ?_⟩ ⟨by decide, by decide⟩ hdg
  show xQ X = fun t r M1 => MQ (xb X) (Qx (LHd c 1) w t r M1) (xa X) (xs X) (xcn X + 1 + 0) (xsn X + 3 + 0) (xA X)
  rw [G9.2.2.2.2.2.2.2.1, G9.2.2.2.1, G9.2.2.2.2.1]
theorem made_rm {X : Cx} (G9 : GmX c w X) : xcn (xInc X 1 3) + 0 ≤ (xR X).cells ∧ xsn (xInc X 1 3) + 0 ≤ (xR X).slots := by
  show xcn X + 1 + 0 ≤ (xR X).cells ∧ xsn X + 3 + 0 ≤ (xR X).slots
  rw [G9.2.2.2.1, G9.2.2.2.2.1, G9.2.2.2.2.2.1, G9.2.2.2.2.2.2.1]
  exact ⟨Nat.le_refl _, Nat.le_refl _⟩
theorem made_r1 {X : Cx} (G9 : GmX c w X) : xcn X + 1 ≤ (xR X).cells := by rw [G9.2.2.2.1, G9.2.2.2.2.2.1]; exact Nat.le_refl _
theorem made_r2 {X : Cx} (G9 : GmX c w X) : xsn X + 3 ≤ (xR X).slots := by rw [G9.2.2.2.2.1, G9.2.2.2.2.2.2.1]; exact Nat.le_refl _
theorem ct_R_made (hc : c < 6) (hij : ij (LHd c 0) w) (h0 : ∀ j, M 600 j = 0) {num fam : Int} (h1 : inR num) (h2 : inR fam) (hf : c = 3 ∨ fam = 0) :
    Ctn LHy (LHd c 1) w y_R_made b_R_made 4 (some (.object "WhoRules$Holder")) 4 1 3 89 5 [.int (i32 (c : Int)), .int (i32 num), .int (i32 fam), .ref (wa w 10)] M 600 (mset (mset M 600 0 num) 600 1 fam) := by
  refine Ctn.of (hy_ij hij) KstY (fun k h => (pr_hy h).2) (fun k h => ?_) (by decide +kernel) (Nat.le_of_ble_eq_true rfl) (fun X G9 => ?_)
  · by_cases d : k = 600
    · subst d; exact Or.inr fun n hn => Nat.le_of_eq hn
    · refine Or.inl ?_
      unfold pr at h ⊢
      have e : lk (LHd c 1) k = lk LHy k := if_neg d
      rw [e] at h
      exact h
  have G9 : GmX c w X := G9
  have G := G9.1
  have G2 := made_gc hij G9
  show VJ LHy w X 4 5 600 _ M [(0, .int (i32 (c : Int))), (1, .int (i32 num)), (2, .int (i32 fam)), (3, .ref (wa w 10))] [] 0
  refine vj_iload_n G (p9 := 0) d_R_made_0 rfl rfl ?_
  have hx : inR (c : Int) := ⟨by omega, by omega⟩
  have ec : c = 0 ∨ c = 1 ∨ c = 2 ∨ c = 3 ∨ c = 4 ∨ c = 5 := by omega
  rcases ec with rfl | rfl | rfl | rfl | rfl | rfl
  · have e : fam = 0 := by omega
    subst e
    refine vj_swOut G (tgt := 88) d_R_made_1 hx (Or.inl (by decide)) (by decide) ?_
    refine hd_new G hc rfl inC_0 HT_0 h0 qn_144 qn_566 cq_H_init.2.1 (made_r1 G9) (made_r2 G9) d_R_made_88 ?_
    refine vj_dup G2 d_R_made_91 rfl ?_
    refine vj_iload_n G2 (p9 := 1) d_R_made_92 rfl rfl ?_
    refine vj_iconst G2 (v := 0) d_R_made_93 rfl ?_
    refine vj_aload_n G2 (p9 := 3) d_R_made_94 rfl rfl ?_
    refine vj_callI G2 (ct_H_init hc rfl inC_0 HT_0 hij h1 ir_0) (made_aw2 G9) q_567 cq_H_init.1 cq_H_init.2.1 cq_H_init.2.2.1 rfl cq_H_init.2.2.2 rfl (by decide) (by decide) (made_rm G9).1 (made_rm G9).2 (Nat.le_of_ble_eq_true rfl) d_R_made_95 rfl ?_
    exact made_end hij G9 d_R_made_98
  · have e : fam = 0 := by omega
    subst e
    refine vj_swIn G (tgt := 36) (y := 1) d_R_made_1 hx rfl (by decide) (by decide) rfl (by decide) ?_
    refine hd_new G hc rfl inC_1 HT_1 h0 qn_502 qn_503 cq_Hf_init.2.1 (made_r1 G9) (made_r2 G9) d_R_made_36 ?_
    refine vj_dup G2 d_R_made_39 rfl ?_
    refine vj_iload_n G2 (p9 := 1) d_R_made_40 rfl rfl ?_
    refine vj_aload_n G2 (p9 := 3) d_R_made_41 rfl rfl ?_
    refine vj_callI G2 (ct_Hf_init hc rfl inC_1 HT_1 hij h1) (made_aw2 G9) q_504 cq_Hf_init.1 cq_Hf_init.2.1 cq_Hf_init.2.2.1 rfl cq_Hf_init.2.2.2 rfl (by decide) (by decide) (made_rm G9).1 (made_rm G9).2 (Nat.le_of_ble_eq_true rfl) d_R_made_42 rfl ?_
    exact made_end hij G9 d_R_made_45
  · have e : fam = 0 := by omega
    subst e
    refine vj_swIn G (tgt := 46) (y := 2) d_R_made_1 hx rfl (by decide) (by decide) rfl (by decide) ?_
    refine hd_new G hc rfl inC_2 HT_2 h0 qn_526 qn_527 cq_Hp_init.2.1 (made_r1 G9) (made_r2 G9) d_R_made_46 ?_
    refine vj_dup G2 d_R_made_49 rfl ?_
    refine vj_iload_n G2 (p9 := 1) d_R_made_50 rfl rfl ?_
    refine vj_iconst G2 (v := 0) d_R_made_51 rfl ?_
    refine vj_aload_n G2 (p9 := 3) d_R_made_52 rfl rfl ?_
    refine vj_callI G2 (ct_Hp_init hc rfl inC_2 HT_2 hij h1 ir_0) (made_aw2 G9) q_528 cq_Hp_init.1 cq_Hp_init.2.1 cq_Hp_init.2.2.1 rfl cq_Hp_init.2.2.2 rfl (by decide) (by decide) (made_rm G9).1 (made_rm G9).2 (Nat.le_of_ble_eq_true rfl) d_R_made_53 rfl ?_
    exact made_end hij G9 d_R_made_56
  · refine vj_swIn G (tgt := 57) (y := 3) d_R_made_1 hx rfl (by decide) (by decide) rfl (by decide) ?_
    refine hd_new G hc rfl inC_3 HT_3 h0 qn_536 qn_537 cq_Hk_init.2.1 (made_r1 G9) (made_r2 G9) d_R_made_57 ?_
    refine vj_dup G2 d_R_made_60 rfl ?_
    refine vj_iload_n G2 (p9 := 1) d_R_made_61 rfl rfl ?_
    refine vj_iload_n G2 (p9 := 2) d_R_made_62 rfl rfl ?_
    refine vj_aload_n G2 (p9 := 3) d_R_made_63 rfl rfl ?_
    refine vj_callI G2 (ct_Hk_init hc rfl inC_3 HT_3 hij h1 h2) (made_aw2 G9) q_538 cq_Hk_init.1 cq_Hk_init.2.1 cq_Hk_init.2.2.1 rfl cq_Hk_init.2.2.2 rfl (by decide) (by decide) (made_rm G9).1 (made_rm G9).2 (Nat.le_of_ble_eq_true rfl) d_R_made_64 rfl ?_
    exact made_end hij G9 d_R_made_67
  · have e : fam = 0 := by omega
    subst e
    refine vj_swIn G (tgt := 68) (y := 4) d_R_made_1 hx rfl (by decide) (by decide) rfl (by decide) ?_
    refine hd_new G hc rfl inC_4 HT_4 h0 qn_546 qn_547 cq_Hu_init.2.1 (made_r1 G9) (made_r2 G9) d_R_made_68 ?_
    refine vj_dup G2 d_R_made_71 rfl ?_
    refine vj_iload_n G2 (p9 := 1) d_R_made_72 rfl rfl ?_
    refine vj_aload_n G2 (p9 := 3) d_R_made_73 rfl rfl ?_
    refine vj_callI G2 (ct_Hu_init hc rfl inC_4 HT_4 hij h1) (made_aw2 G9) q_548 cq_Hu_init.1 cq_Hu_init.2.1 cq_Hu_init.2.2.1 rfl cq_Hu_init.2.2.2 rfl (by decide) (by decide) (made_rm G9).1 (made_rm G9).2 (Nat.le_of_ble_eq_true rfl) d_R_made_74 rfl ?_
    exact made_end hij G9 d_R_made_77
  · have e : fam = 0 := by omega
    subst e
    refine vj_swIn G (tgt := 78) (y := 5) d_R_made_1 hx rfl (by decide) (by decide) rfl (by decide) ?_
    refine hd_new G hc rfl inC_5 HT_5 h0 qn_556 qn_557 cq_Hc_init.2.1 (made_r1 G9) (made_r2 G9) d_R_made_78 ?_
    refine vj_dup G2 d_R_made_81 rfl ?_
    refine vj_iload_n G2 (p9 := 1) d_R_made_82 rfl rfl ?_
    refine vj_aload_n G2 (p9 := 3) d_R_made_83 rfl rfl ?_
    refine vj_callI G2 (ct_Hc_init hc rfl inC_5 HT_5 hij h1) (made_aw2 G9) q_558 cq_Hc_init.1 cq_Hc_init.2.1 cq_Hc_init.2.2.1 rfl cq_Hc_init.2.2.2 rfl (by decide) (by decide) (made_rm G9).1 (made_rm G9).2 (Nat.le_of_ble_eq_true rfl) d_R_made_84 rfl ?_
    exact made_end hij G9 d_R_made_87
end
