/-! The five other holders' constructors. -/
section
variable {w : Wd} {M : Mm} {c : Nat}
theorem hd_ret {X : Cx} {own nm : String} {cc : ByteArray} {nL fr lo pc : Nat} {lv : List (Nat × Value)} (hij : ij (LHd c 0) w) (G9 : Gn (LHd c 0) (LHd c 1) w X own cc nL fr 0 0 lo none nm) (hdg : decode cc pc = .ok (.return_, 1)) : VJ (LHd c 1) w (xInc X 0 0) nL 0 0 M M lv [] pc := by
  have G := G9.1
  have G1 : Gc (LHd c 1) w X own cc nL fr lo := grow_gc (L' := LHd c 1) (a := 0) (b := 0) G rfl hij (KstH c 1) (by have := G.2.2.2.2.2.2.1; exact this) (fun q h => by rw [G9.2.2.1]; exact h) (fun q h => h) (by rw [G9.2.2.2.1]; exact Nat.zero_le _) (by rw [G9.2.2.2.2.1]; exact Nat.zero_le _)
  show VJ (LHd c 1) w X nL 0 0 M M lv [] pc
  refine vj_vret (lo := lo) (fr := fr) ⟨G1, G9.2.1, G9.2.2.1, ?_⟩ hdg
  rw [G9.2.2.2.2.2.2.2.1, G9.2.2.2.1, G9.2.2.2.2.1]
theorem hd_aw {X : Cx} {own nm : String} {cc : ByteArray} {nL fr lo : Nat} (G9 : Gn (LHd c 0) (LHd c 1) w X own cc nL fr 0 0 lo none nm) : ∀ q, Aw (LHd c 1) w q → xA X q := fun q h => by rw [G9.2.2.1]; exact h
theorem hd_rm {X : Cx} {own nm : String} {cc : ByteArray} {nL fr lo : Nat} (G9 : Gn (LHd c 0) (LHd c 1) w X own cc nL fr 0 0 lo none nm) : xcn X + 0 ≤ (xR X).cells ∧ xsn X + 0 ≤ (xR X).slots := by
  rw [G9.2.2.2.1, G9.2.2.2.2.1]
  exact ⟨Nat.zero_le _, Nat.zero_le _⟩
theorem ct_Hp_init (hc : c < 6) {C : String} {T : u_T} (hcl : clsC[c]? = some (C, T, 3)) (hin : ∀ x ∈ u_ws C T 3, x ∈ ALL) (hT : HT T) (hij : ij (LHd c 0) w) {x1 x2 : Int} (h1 : inR x1) (h2 : inR x2) :
    Ctn (LHd c 0) (LHd c 1) w y_Hp_init b_Hp_init 4 none 2 0 0 43 0 [.ref (wa w 600), .int (i32 x1), .int (i32 x2), .ref (wa w 10)] M 0 (mset (mset M 600 0 x1) 600 1 x2) := by
  refine Ctn.of hij (KstH c 0) (fun k h => h) (fun k h => Or.inl h) (by decide +kernel) (Nat.le_of_ble_eq_true rfl) (fun X G9 => ?_)
  have G := G9.1
  show VJ (LHd c 0) w X 4 0 0 _ M [(0, .ref (wa w 600)), (1, .int (i32 x1)), (2, .int (i32 x2)), (3, .ref (wa w 10))] [] 0
  refine vj_aload_n G (p9 := 0) d_Hp_init_0 rfl rfl ?_
  refine vj_iload_n G (p9 := 1) d_Hp_init_1 rfl rfl ?_
  refine vj_iload_n G (p9 := 2) d_Hp_init_2 rfl rfl ?_
  refine vj_aload_n G (p9 := 3) d_Hp_init_3 rfl rfl ?_
  refine vj_callI G (ct_H_init hc hcl hin hT hij h1 h2) (hd_aw G9) q_531 cq_H_init.1 cq_H_init.2.1 cq_H_init.2.2.1 rfl cq_H_init.2.2.2 rfl (by decide) (by decide) (hd_rm G9).1 (hd_rm G9).2 (by decide) d_Hp_init_4 rfl ?_
  exact hd_ret hij G9 d_Hp_init_7
theorem ct_Hk_init (hc : c < 6) {C : String} {T : u_T} (hcl : clsC[c]? = some (C, T, 3)) (hin : ∀ x ∈ u_ws C T 3, x ∈ ALL) (hT : HT T) (hij : ij (LHd c 0) w) {x1 x2 : Int} (h1 : inR x1) (h2 : inR x2) :
    Ctn (LHd c 0) (LHd c 1) w y_Hk_init b_Hk_init 4 none 3 0 0 66 0 [.ref (wa w 600), .int (i32 x1), .int (i32 x2), .ref (wa w 10)] M 0 (mset (mset M 600 0 x1) 600 1 x2) := by
  refine Ctn.of hij (KstH c 0) (fun k h => h) (fun k h => Or.inl h) (by decide +kernel) (Nat.le_of_ble_eq_true rfl) (fun X G9 => ?_)
  have G := G9.1
  show VJ (LHd c 0) w X 4 0 0 _ M [(0, .ref (wa w 600)), (1, .int (i32 x1)), (2, .int (i32 x2)), (3, .ref (wa w 10))] [] 0
  refine vj_aload_n G (p9 := 0) d_Hk_init_0 rfl rfl ?_
  refine vj_iload_n G (p9 := 1) d_Hk_init_1 rfl rfl ?_
  refine vj_iload_n G (p9 := 2) d_Hk_init_2 rfl rfl ?_
  refine vj_aload_n G (p9 := 3) d_Hk_init_3 rfl rfl ?_
  refine vj_callI G (ct_Hp_init hc hcl hin hT hij h1 h2) (hd_aw G9) q_541 cq_Hp_init.1 cq_Hp_init.2.1 cq_Hp_init.2.2.1 rfl cq_Hp_init.2.2.2 rfl (by decide) (by decide) (hd_rm G9).1 (hd_rm G9).2 (by decide) d_Hk_init_4 rfl ?_
  exact hd_ret hij G9 d_Hk_init_7
theorem ct_Hf_init (hc : c < 6) {C : String} {T : u_T} (hcl : clsC[c]? = some (C, T, 3)) (hin : ∀ x ∈ u_ws C T 3, x ∈ ALL) (hT : HT T) (hij : ij (LHd c 0) w) {x1 : Int} (h1 : inR x1) :
    Ctn (LHd c 0) (LHd c 1) w y_Hf_init b_Hf_init 3 none 2 0 0 43 0 [.ref (wa w 600), .int (i32 x1), .ref (wa w 10)] M 0 (mset (mset M 600 0 x1) 600 1 0) := by
  refine Ctn.of hij (KstH c 0) (fun k h => h) (fun k h => Or.inl h) (by decide +kernel) (Nat.le_of_ble_eq_true rfl) (fun X G9 => ?_)
  have G := G9.1
  show VJ (LHd c 0) w X 3 0 0 _ M [(0, .ref (wa w 600)), (1, .int (i32 x1)), (2, .ref (wa w 10))] [] 0
  refine vj_aload_n G (p9 := 0) d_Hf_init_0 rfl rfl ?_
  refine vj_iload_n G (p9 := 1) d_Hf_init_1 rfl rfl ?_
  refine vj_iconst G (v := 0) d_Hf_init_2 rfl ?_
  refine vj_aload_n G (p9 := 2) d_Hf_init_3 rfl rfl ?_
  refine vj_callI G (ct_H_init hc hcl hin hT hij h1 ir_0) (hd_aw G9) q_507 cq_H_init.1 cq_H_init.2.1 cq_H_init.2.2.1 rfl cq_H_init.2.2.2 rfl (by decide) (by decide) (hd_rm G9).1 (hd_rm G9).2 (by decide) d_Hf_init_4 rfl ?_
  exact hd_ret hij G9 d_Hf_init_7
theorem ct_Hu_init (hc : c < 6) {C : String} {T : u_T} (hcl : clsC[c]? = some (C, T, 3)) (hin : ∀ x ∈ u_ws C T 3, x ∈ ALL) (hT : HT T) (hij : ij (LHd c 0) w) {x1 : Int} (h1 : inR x1) :
    Ctn (LHd c 0) (LHd c 1) w y_Hu_init b_Hu_init 3 none 2 0 0 43 0 [.ref (wa w 600), .int (i32 x1), .ref (wa w 10)] M 0 (mset (mset M 600 0 x1) 600 1 0) := by
  refine Ctn.of hij (KstH c 0) (fun k h => h) (fun k h => Or.inl h) (by decide +kernel) (Nat.le_of_ble_eq_true rfl) (fun X G9 => ?_)
  have G := G9.1
  show VJ (LHd c 0) w X 3 0 0 _ M [(0, .ref (wa w 600)), (1, .int (i32 x1)), (2, .ref (wa w 10))] [] 0
  refine vj_aload_n G (p9 := 0) d_Hu_init_0 rfl rfl ?_
  refine vj_iload_n G (p9 := 1) d_Hu_init_1 rfl rfl ?_
  refine vj_iconst G (v := 0) d_Hu_init_2 rfl ?_
  refine vj_aload_n G (p9 := 2) d_Hu_init_3 rfl rfl ?_
  refine vj_callI G (ct_H_init hc hcl hin hT hij h1 ir_0) (hd_aw G9) q_551 cq_H_init.1 cq_H_init.2.1 cq_H_init.2.2.1 rfl cq_H_init.2.2.2 rfl (by decide) (by decide) (hd_rm G9).1 (hd_rm G9).2 (by decide) d_Hu_init_4 rfl ?_
  exact hd_ret hij G9 d_Hu_init_7
theorem ct_Hc_init (hc : c < 6) {C : String} {T : u_T} (hcl : clsC[c]? = some (C, T, 3)) (hin : ∀ x ∈ u_ws C T 3, x ∈ ALL) (hT : HT T) (hij : ij (LHd c 0) w) {x1 : Int} (h1 : inR x1) :
    Ctn (LHd c 0) (LHd c 1) w y_Hc_init b_Hc_init 3 none 3 0 0 65 0 [.ref (wa w 600), .int (i32 x1), .ref (wa w 10)] M 0 (mset (mset M 600 0 x1) 600 1 0) := by
  refine Ctn.of hij (KstH c 0) (fun k h => h) (fun k h => Or.inl h) (by decide +kernel) (Nat.le_of_ble_eq_true rfl) (fun X G9 => ?_)
  have G := G9.1
  show VJ (LHd c 0) w X 3 0 0 _ M [(0, .ref (wa w 600)), (1, .int (i32 x1)), (2, .ref (wa w 10))] [] 0
  refine vj_aload_n G (p9 := 0) d_Hc_init_0 rfl rfl ?_
  refine vj_iload_n G (p9 := 1) d_Hc_init_1 rfl rfl ?_
  refine vj_aload_n G (p9 := 2) d_Hc_init_2 rfl rfl ?_
  refine vj_callI G (ct_Hu_init hc hcl hin hT hij h1) (hd_aw G9) q_561 cq_Hu_init.1 cq_Hu_init.2.1 cq_Hu_init.2.2.1 rfl cq_Hu_init.2.2.2 rfl (by decide) (by decide) (hd_rm G9).1 (hd_rm G9).2 (by decide) d_Hc_init_3 rfl ?_
  exact hd_ret hij G9 d_Hc_init_6
end
