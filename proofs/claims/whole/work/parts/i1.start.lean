/-! What the Statement gives at the law's entry. -/
theorem tb_in {w : Cond} (i : Nat) (h : lw_tbl[i]? = some w) : w ∈ lw_tbl := List.mem_of_getElem? h
section
variable {s : State} {b : Nat}
theorem kn_all {cl : List vw_C} (h : ∀ (c : Nat) (q : vw_C), cl[c]? = some q → ∃ (cC : ClassId) (iS : Nat → Nat), u_Kn s q.1 q.2.1 q.2.2 cC iS) : ∃ D : va_G, ∀ (c : Nat) (q : vw_C), cl[c]? = some q → u_Kn s q.1 q.2.1 q.2.2 (D.1 c) (D.2 c) := by
  have h0 : ∀ c : Nat, ∃ p : ClassId × (Nat → Nat), ∀ q : vw_C, cl[c]? = some q → u_Kn s q.1 q.2.1 q.2.2 p.1 p.2 := by
    intro c
    cases hc : cl[c]? with
    | none => exact ⟨(0, fun _ => 0), fun q hq => by cases hq⟩
    | some q =>
      obtain ⟨cC, iS, hk⟩ := h c q hc
      exact ⟨(cC, iS), fun q' hq => by cases hq; exact hk⟩
  obtain ⟨f, hf⟩ := Classical.axiomOfChoice h0
  exact ⟨(fun c => (f c).1, fun c => (f c).2), fun c q hq => hf c q hq⟩
theorem st_C (hA : ∀ c ∈ ALL, c.before #[Value.ref b] s = true) (hts : ∀ w ∈ lw_tbl, w.before #[Value.ref b] s = true) : ∃ D : va_G, ∀ (c : Nat) (q : vw_C), clsC[c]? = some q → u_Kn s q.1 q.2.1 q.2.2 (D.1 c) (D.2 c) := by
  refine kn_all fun c q hq => ?_
  match c, hq with
  | 0, hq => cases hq; exact u_known hA inC_0 (n := 3) (hts _ (tb_in 566 (by decide +kernel)))
  | 1, hq => cases hq; exact u_known hA inC_1 (n := 3) (hts _ (tb_in 503 (by decide +kernel)))
  | 2, hq => cases hq; exact u_known hA inC_2 (n := 3) (hts _ (tb_in 527 (by decide +kernel)))
  | 3, hq => cases hq; exact u_known hA inC_3 (n := 3) (hts _ (tb_in 537 (by decide +kernel)))
  | 4, hq => cases hq; exact u_known hA inC_4 (n := 3) (hts _ (tb_in 547 (by decide +kernel)))
  | 5, hq => cases hq; exact u_known hA inC_5 (n := 3) (hts _ (tb_in 557 (by decide +kernel)))
  | 6, hq => cases hq; exact u_known hA inC_6 (n := 12) (hts _ (tb_in 131 (by decide +kernel)))
  | 7, hq => cases hq; exact u_known hA inC_7 (n := 20) (hts _ (tb_in 139 (by decide +kernel)))
  | 8, hq => cases hq; exact u_known hA inC_8 (n := 12) (hts _ (tb_in 252 (by decide +kernel)))
  | 9, hq => cases hq; exact u_known hA inC_9 (n := 14) (hts _ (tb_in 298 (by decide +kernel)))
  | 10, hq => cases hq; exact u_known hA inC_10 (n := 12) (hts _ (tb_in 359 (by decide +kernel)))
  | 11, hq => cases hq; exact u_known hA inC_11 (n := 10) (hts _ (tb_in 403 (by decide +kernel)))
  | c + 12, hq => exact absurd hq (by show (([] : List vw_C)[c]? = some q) → False; rw [List.getElem?_nil]; exact fun h => by cases h)
theorem st_R (hA : ∀ c ∈ ALL, c.before #[Value.ref b] s = true) (hts : ∀ w ∈ lw_tbl, w.before #[Value.ref b] s = true) : ∃ D : va_G, ∀ (c : Nat) (q : vw_C), clsR[c]? = some q → u_Kn s q.1 q.2.1 q.2.2 (D.1 c) (D.2 c) := by
  refine kn_all fun c q hq => ?_
  match c, hq with
  | 0, hq => cases hq; exact u_known hA inR_0 (n := 77) (hts _ (tb_in 1301 (by decide +kernel)))
  | c + 1, hq => exact absurd hq (by show (([] : List vw_C)[c]? = some q) → False; rw [List.getElem?_nil]; exact fun h => by cases h)
theorem st_arr {ty : FieldType} (h : (Cond.arrayClass ty).before #[Value.ref b] s = true) : ∃ cA : ClassId, ArrOfT s cA ty ∧ s.vm.findClass ("[" ++ ty.toString) = some cA := by
  obtain ⟨c, k, comp, h1, h2, h3⟩ := Cond.arrayClass_spec h
  exact ⟨c, fun n z => ⟨(fun q e => by cases e), k, h2, comp, h3⟩, h1⟩
theorem st_arrA {ty : FieldType} (h : (Cond.arrayOver (.array ty)).before #[Value.ref b] s = true) : ∃ cA : ClassId, ArrOfT s cA (.array ty) ∧ s.vm.findClass ("[" ++ (FieldType.array ty).toString) = some cA := by
  obtain ⟨comp, c, k, -, -, h3, h4, h5⟩ := arrayOverA_spec h
  exact ⟨c, fun n z => ⟨(fun q e => by cases e), k, h3, comp, h4⟩, h5⟩
theorem st_arrO {C : String} (h : (Cond.arrayOver (.object C)).before #[Value.ref b] s = true) : ∃ cA : ClassId, ArrOfT s cA (.object C) ∧ va_RA s cA (.object C) := by
  obtain ⟨comp, c, k, h1, -, h3, h4, h5⟩ := Cond.arrayOver_spec h
  exact ⟨c, fun n z => ⟨(fun q e => by cases e), k, h3, comp, h4⟩, k, comp, h3, h4, h1, h5⟩
/-- the array classes -/
theorem st_T (hts : ∀ w ∈ lw_tbl, w.before #[Value.ref b] s = true) : ∃ T : Nat → ClassId, ∀ w : Wd, wT w = T → ∀ (k : Nat) (q : ClassId × FieldType), (tys w)[k]? = some q → ArrOfT s q.1 q.2 ∧ va_RA s q.1 q.2 := by
  obtain ⟨c0, a0, f0⟩ := st_arr (hts _ (tb_in (w := .arrayClass .int) 250 (by decide +kernel)))
  obtain ⟨c1, a1, f1⟩ := st_arr (hts _ (tb_in (w := .arrayClass .byte) 296 (by decide +kernel)))
  obtain ⟨c2, a2, f2⟩ := st_arr (hts _ (tb_in (w := .arrayClass .long) 445 (by decide +kernel)))
  obtain ⟨c3, a3, f3⟩ := st_arr (hts _ (tb_in (w := .arrayClass .boolean) 1538 (by decide +kernel)))
  obtain ⟨c4, a4, f4⟩ := st_arrA (hts _ (tb_in (w := .arrayOver (.array .int)) 304 (by decide +kernel)))
  obtain ⟨c5, a5, f5⟩ := st_arrA (hts _ (tb_in (w := .arrayOver (.array .long)) 410 (by decide +kernel)))
  obtain ⟨c6, a6, f6⟩ := st_arrO (hts _ (tb_in (w := .arrayOver (.object "WhoRules$Holder")) 145 (by decide +kernel)))
  refine ⟨fun i => match i with
    | 0 => c0
    | 1 => c1
    | 2 => c2
    | 3 => c3
    | 4 => c4
    | 5 => c5
    | _ => c6, fun w hw k q hq => ?_⟩
  unfold tys at hq
  rw [hw] at hq
  match k, hq with
  | 0, hq => cases hq; exact ⟨a0, f0⟩
  | 1, hq => cases hq; exact ⟨a1, f1⟩
  | 2, hq => cases hq; exact ⟨a2, f2⟩
  | 3, hq => cases hq; exact ⟨a3, f3⟩
  | 4, hq => cases hq; exact ⟨a4, f4⟩
  | 5, hq => cases hq; exact ⟨a5, f5⟩
  | 6, hq => cases hq; exact ⟨a6, f6⟩
  | k + 7, hq => exact absurd hq (by show (([] : List (ClassId × FieldType))[k]? = some q) → False; rw [List.getElem?_nil]; exact fun h => by cases h)
def tmk : List Nat := [68, 70, 72, 74, 76, 111, 117]
def tmS (i : Nat) : Term := Term.string "WhoRules$Charters" (tmk.getD i 0)
def flG : List Cond := flatC (Jvm.Cond.and given_1 narrow_1)
theorem fl_ex : ∀ i, i < 7 → Cond.exactly (tmS i) "java/lang/String" ∈ flG := by decide +kernel
theorem fl_co : ∀ i, i < 7 → Cond.eq (.field (tmS i) "java/lang/String" "coder" "B") (.int 0) ∈ flG := by decide +kernel
theorem fl_ar : ∀ i, i < 7 → Cond.arrayOf (.field (tmS i) "java/lang/String" "value" "[B") .byte ∈ flG := by decide +kernel
theorem fl_le : ∀ i, i < 7 → Cond.eq (.length (.field (tmS i) "java/lang/String" "value" "[B")) (.int (Int32.ofNat (sLens.getD i 0))) ∈ flG := by decide +kernel
theorem fl_el : ∀ i, i < 7 → ∀ j, j < sLens.getD i 0 → Cond.eq (.elem (.field (tmS i) "java/lang/String" "value" "[B") (.int (Int32.ofNat j))) (.int ((sBys.getD i []).getD j 0)) ∈ flG := by decide +kernel
theorem fl_ne : ∀ i, i < 7 → ∀ j, j < 7 → i ≠ j → (Cond.not (Cond.eq (tmS i) (tmS j)) ∈ flG ∨ Cond.not (Cond.eq (tmS j) (tmS i)) ∈ flG) := by decide +kernel
theorem fl_cast : ∀ q ∈ castN, Cond.not (.castable q.1 q.2) ∈ flG := by decide +kernel
theorem fl_cs : Cond.eq (.static "java/lang/String" "COMPACT_STRINGS" "Z") (.int 1) ∈ flG := by decide +kernel
theorem fl_sf : Cond.isRef (.static "jdk/internal/util/Preconditions" "SIOOBE_FORMATTER" "Ljava/util/function/BiFunction;") ∈ flG := by decide +kernel
/-- the texts, the statics, what may be cast -/
theorem st_X (hts : ∀ w ∈ lw_tbl, w.before #[Value.ref b] s = true) (hg : (Jvm.Cond.and given_1 narrow_1).before #[Value.ref b] s = true) : ∃ ad : Nat → Nat, ∀ w : Wd, ws9 w = ad → KXG (fun q => s.heap.size ≤ q) w s := by
  have hs : ∀ c ∈ flG, c.before #[Value.ref b] s = true := flat_of_before _ hg
  have hA : ∀ a : Nat, a < s.heap.size → ¬ (fun q : Nat => s.heap.size ≤ q) a := fun a h => Nat.not_le.mpr h
  obtain ⟨adK, adV, hS, hE⟩ := vk_Sof (args := #[Value.ref b]) (s := s) (N := 7) (tm := tmS) (len := sLens) (byt := sBys) (A := fun q : Nat => s.heap.size ≤ q) (by decide +kernel) (fun i hi => hs _ (fl_ex i hi)) (fun i hi => hs _ (fl_co i hi)) (fun i hi => hs _ (fl_ar i hi)) (fun i hi => hs _ (fl_le i hi)) (fun i hi j hj => hs _ (fl_el i hi j hj)) (fun i j hi hj e => (fl_ne i hi j hj e).imp (hs _) (hs _)) hA
  refine ⟨fun i => if i < 7 then adK i else adV (i - 7), fun w hw => ⟨⟨fun i hi => ?_, fun i j hi hj e => ?_⟩, ⟨?_, ?_, ?_, ?_, ?_, ?_, ?_⟩, ?_, ?_, ⟨?_, ?_, ?_⟩, ?_, ?_⟩⟩
  · have e1 : ws9 w i = adK i := by rw [hw]; exact if_pos hi
    have e2 : ws9 w (i + 7) = adV i := by
      rw [hw]
      show (if i + 7 < 7 then adK (i + 7) else adV (i + 7 - 7)) = adV i
      rw [if_neg (by omega), Nat.add_sub_cancel]
    rw [e1]
    show _ ∧ _ ∧ va_OF "java/lang/String" "value" "[B" (.ref (ws9 w (i + 7))) (adK i) _ s s.heap ∧ va_T .byte (ws9 w (i + 7)) (sLens.getD i 0) _ _ s s.heap
    rw [e2]
    exact hS.1 i hi
  · have e1 : ws9 w i = adK i := by rw [hw]; exact if_pos hi
    have e2 : ws9 w j = adK j := by rw [hw]; exact if_pos hj
    rw [e1, e2] at e
    exact hS.2 i j hi hj e
  · exact vk_R.of (hts _ (tb_in 669 (by decide +kernel))) (by rw [hw]; exact hE 0 (by decide))
  · exact vk_R.of (hts _ (tb_in 670 (by decide +kernel))) (by rw [hw]; exact hE 1 (by decide))
  · exact vk_R.of (hts _ (tb_in 671 (by decide +kernel))) (by rw [hw]; exact hE 2 (by decide))
  · exact vk_R.of (hts _ (tb_in 672 (by decide +kernel))) (by rw [hw]; exact hE 3 (by decide))
  · exact vk_R.of (hts _ (tb_in 673 (by decide +kernel))) (by rw [hw]; exact hE 4 (by decide))
  · exact vk_R.of (hts _ (tb_in 754 (by decide +kernel))) (by rw [hw]; exact hE 5 (by decide))
  · exact vk_R.of (hts _ (tb_in 759 (by decide +kernel))) (by rw [hw]; exact hE 6 (by decide))
  · exact va_Zof (hts _ (tb_in 683 (by decide +kernel))) (hts _ (tb_in 123 (by decide +kernel))) (va_eqt (hs _ fl_cs)) hA
  · exact va_Zqof (hts _ (tb_in 691 (by decide +kernel))) (hts _ (tb_in 125 (by decide +kernel))) (hs _ fl_sf) hA
  · exact va_Nw.of rfl (hts _ (tb_in 1173 (by decide +kernel)))
  · exact va_Nw.of rfl (hts _ (tb_in 1179 (by decide +kernel)))
  · exact va_Nw.of rfl (hts _ (tb_in 1236 (by decide +kernel)))
  · intro q hq
    simp only [castP, List.mem_cons, List.not_mem_nil, or_false] at hq
    rcases hq with rfl | rfl | rfl | rfl | rfl | rfl | rfl
    · exact va_Nw.of rfl (hts _ (tb_in 1950 (by decide +kernel)))
    · exact va_Nw.of rfl (hts _ (tb_in 1951 (by decide +kernel)))
    · exact va_Nw.of rfl (hts _ (tb_in 1952 (by decide +kernel)))
    · exact va_Nw.of rfl (hts _ (tb_in 1953 (by decide +kernel)))
    · exact va_Nw.of rfl (hts _ (tb_in 1954 (by decide +kernel)))
    · exact va_Nw.of rfl (hts _ (tb_in 1955 (by decide +kernel)))
    · exact va_Nw.of rfl (hts _ (tb_in 1956 (by decide +kernel)))
  · exact fun q hq => va_Nc.of (hs _ (fl_cast q hq))
theorem st_9 (hts : ∀ w ∈ lw_tbl, w.before #[Value.ref b] s = true) {w : Wd} (h : KXC w s) : KX9 w s :=
  ⟨h, va_AO.of (hts _ (tb_in 145 (by decide +kernel))), over_moved (Vm.Alike.refl s.vm) (hts _ (tb_in (w := .arrayOver (.array .int)) 304 (by decide +kernel))), over_moved (Vm.Alike.refl s.vm) (hts _ (tb_in (w := .arrayOver (.array .long)) 410 (by decide +kernel))), va_Nw.of rfl (hts _ (tb_in 140 (by decide +kernel))), va_Nw.of rfl (hts _ (tb_in 253 (by decide +kernel)))⟩
end
