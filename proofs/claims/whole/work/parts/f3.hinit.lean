/-! Holders' constructors. -/
theorem qo_inst : Cond.instanceMethod Lib.objectInit ∈ ALL := all_in 136 (by decide +kernel) rfl
theorem qo_code : Cond.code Lib.objectInit ⟨#[0xb1]⟩ 1 none ∈ ALL := all_in 137 (by decide +kernel) rfl
/-- what the six classes have alike -/
def HT (T : u_T) : Prop := T 0 = ("WhoRules$Holder", "number", "I", true) ∧ T 1 = ("WhoRules$Holder", "family", "I", true) ∧ T 2 = ("WhoRules$Holder", "trace", "[I", true)
theorem HT.nm {T : u_T} (h : HT T) : ∀ a, a < 3 → ∀ b, b < 3 → a ≠ b → (T a).2.1 ≠ (T b).2.1 := by
  have h0 : (T 0).2.1 = "number" := by rw [h.1]
  have h1 : (T 1).2.1 = "family" := by rw [h.2.1]
  have h2 : (T 2).2.1 = "trace" := by rw [h.2.2]
  intro a ha b hb hab
  have ea : a = 0 ∨ a = 1 ∨ a = 2 := by omega
  have eb : b = 0 ∨ b = 1 ∨ b = 2 := by omega
  rcases ea with rfl | rfl | rfl <;> rcases eb with rfl | rfl | rfl <;> first | exact absurd rfl hab | (simp only [h0, h1, h2]; decide)
def tyHH : Nat → FieldType := fun k => match k with
  | 0 => .int
  | 1 => .int
  | _ => .array .int
theorem HT.ty {T : u_T} (h : HT T) : ∀ k, k < 3 → parseFieldDescriptor (T k).2.2.1 = some (tyHH k) := by
  intro k hk
  have ek : k = 0 ∨ k = 1 ∨ k = 2 := by omega
  rcases ek with rfl | rfl | rfl
  · rw [h.1]; decide +kernel
  · rw [h.2.1]; decide +kernel
  · rw [h.2.2]; decide +kernel
section
variable {w : Wd} {M : Mm} {c : Nat}
theorem pr_hd (c s : Nat) : pr (LHd c s) w 600 := ⟨show (4 : Nat) ≠ 9 by decide, fun q => absurd (show (4 : Nat) = 8 from q) (by decide)⟩
theorem hd_ir {s : Nat} (hc : c < 6) {H : Heap} (h : Rp (LHd c s) w M H) (j : Nat) : inR (M 600 j) := by
  have ht : tO (LHd c s) 600 j ≠ 2 ∧ tO (LHd c s) 600 j ≠ 3 := by
    unfold tO
    rw [lkH_600]
    show (((lHf s c)[j]?).getD (0, 0)).1 ≠ 2 ∧ (((lHf s c)[j]?).getD (0, 0)).1 ≠ 3
    unfold lHf LHf
    rw [if_pos hc]
    by_cases z : s = 0
    · rw [if_pos z]
      rcases j with _ | _ | _ | j
      · exact ⟨by decide, by decide⟩
      · exact ⟨by decide, by decide⟩
      · exact ⟨by decide, by decide⟩
      · exact ⟨show (0 : Nat) ≠ 2 by decide, show (0 : Nat) ≠ 3 by decide⟩
    · rw [if_neg z]
      rcases j with _ | _ | _ | j
      · exact ⟨by decide, by decide⟩
      · exact ⟨by decide, by decide⟩
      · exact ⟨by decide, by decide⟩
      · exact ⟨show (0 : Nat) ≠ 2 by decide, show (0 : Nat) ≠ 3 by decide⟩
  exact rp_ir h ht.1
theorem lf_hd (hc : c < 6) (s : Nat) : lf (LHd c s) c = LHf s := by
  show lHf s c = LHf s
  unfold lHf
  rw [if_pos hc]
theorem aw_hd (c : Nat) : Aw (LHd c 0) w = Aw (LHd c 1) w := rfl
set_option maxHeartbeats 1000000 in
theorem ct_H_init (hc : c < 6) {C : String} {T : u_T} (hcl : clsC[c]? = some (C, T, 3)) (hin : ∀ x ∈ u_ws C T 3, x ∈ ALL) (hT : HT T) (hij : ij (LHd c 0) w) {x1 x2 : Int} (h1 : inR x1) (h2 : inR x2) :
    Ctn (LHd c 0) (LHd c 1) w y_H_init b_H_init 4 none 1 0 0 20 0 [.ref (wa w 600), .int (i32 x1), .int (i32 x2), .ref (wa w 10)] M 0 (mset (mset M 600 0 x1) 600 1 x2) := by
  refine Ctn.of hij (KstH c 0) (fun k h => h) (fun k h => Or.inl h) (by decide +kernel) (Nat.le_of_ble_eq_true rfl) (fun X G9 => ?_)
  have G := G9.1
  have hd0 : (T 0).1 = "WhoRules$Holder" := by rw [hT.1]
  have hd1 : (T 1).1 = "WhoRules$Holder" := by rw [hT.2.1]
  have hd2 : (T 2).1 = "WhoRules$Holder" := by rw [hT.2.2]
  have hlen : (lf (LHd c 0) c).length = 3 := by rw [lf_hd hc]; rfl
  have hnm : (xM X).name = "<init>" := G9.2.2.2.2.2.2.2.2
  show VJ (LHd c 0) w X 4 0 0 _ M [(0, .ref (wa w 600)), (1, .int (i32 x1)), (2, .int (i32 x2)), (3, .ref (wa w 10))] [] 0
  refine vj_aload_n G (p9 := 0) d_H_init_0 rfl rfl ?_
  refine vj_objInit G q_510 qo_inst qo_code (Nat.le_refl _) (Nat.le_refl _) (by decide) d_H_init_1 ?_
  refine vj_aload_n G (p9 := 0) d_H_init_4 rfl rfl ?_
  refine vj_iload_n G (p9 := 1) d_H_init_5 rfl rfl ?_
  refine vj_cputF (L' := LHd c 0) G hnm (lkH_600 c 0) hcl hin hT.ty hT.nm (j := 0) (by decide) (by rw [hT.1]; exact q_511) hd0 (by rw [hT.1]) (ty := .int) (M' := mset M 600 0 x1) (by rw [hT.1]; decide +kernel) rfl rfl hlen (fun H H1 hP hz ho hv => ?_) d_H_init_6 ?_
  · refine rp_600 hc hij hP hz ho ?_ (fun k hk => mg_k _ _ _ hk) (fun j => ?_)
    · rw [lf_hd hc] at hv
      exact hv
    · rw [mg]
      split
      · split
        · exact h1
        · exact hd_ir hc hP j
      · exact hd_ir hc hP j
  refine vj_aload_n G (p9 := 0) d_H_init_9 rfl rfl ?_
  refine vj_iload_n G (p9 := 2) d_H_init_10 rfl rfl ?_
  refine vj_cputF (L' := LHd c 0) G hnm (lkH_600 c 0) hcl hin hT.ty hT.nm (j := 1) (by decide) (by rw [hT.2.1]; exact q_514) hd1 (by rw [hT.2.1]) (ty := .int) (M' := mset (mset M 600 0 x1) 600 1 x2) (by rw [hT.2.1]; decide +kernel) rfl rfl hlen (fun H H1 hP hz ho hv => ?_) d_H_init_11 ?_
  · refine rp_600 hc hij hP hz ho ?_ (fun k hk => mg_k _ _ _ hk) (fun j => ?_)
    · rw [lf_hd hc] at hv
      exact hv
    · rw [mg]
      split
      · split
        · exact h2
        · exact hd_ir hc hP j
      · exact hd_ir hc hP j
  refine vj_aload_n G (p9 := 0) d_H_init_14 rfl rfl ?_
  refine vj_aload_n G (p9 := 3) d_H_init_15 rfl rfl ?_
  refine vj_cputF (L' := LHd c 1) G hnm (lkH_600 c 0) hcl hin hT.ty hT.nm (j := 2) (by decide) (by rw [hT.2.2]; exact q_518) hd2 (by rw [hT.2.2]) (ty := .array .int) (x := .ref (wa w 10)) (M' := mset (mset M 600 0 x1) 600 1 x2) (by rw [hT.2.2]; decide +kernel) rfl rfl hlen (fun H H1 hP hz ho hv => ?_) d_H_init_16 ?_
  · refine rp_600 hc hij hP hz ho ?_ (fun k hk => rfl) (fun j => hd_ir hc hP j)
    rw [lf_hd hc] at hv
    exact hv
  have G1 : Gc (LHd c 1) w X "WhoRules$Holder" b_H_init 4 1 20 := grow_gc (L' := LHd c 1) (a := 0) (b := 0) G rfl hij (KstH c 1) (by have := G.2.2.2.2.2.2.1; exact this) (fun q h => by rw [G9.2.2.1]; exact h) (fun q h => h) (by rw [G9.2.2.2.1]; exact Nat.zero_le _) (by rw [G9.2.2.2.2.1]; exact Nat.zero_le _)
  refine vj_vret (lo := 20) (fr := 1) ⟨G1, G9.2.1, G9.2.2.1, ?_⟩ d_H_init_19
  rw [G9.2.2.2.2.2.2.2.1, G9.2.2.2.1, G9.2.2.2.2.1]
end
