/-! An object that is being made, a holder: cell 600. -/
def KXG (A : Nat → Prop) (w : Wd) (U : State) : Prop := vk_S 7 sLens sBys (ws9 w) (fun i => ws9 w (i + 7)) A U U.heap ∧ (vk_R "WhoRules$Charters" 68 "need" (ws9 w 0) U ∧ vk_R "WhoRules$Charters" 70 "most" (ws9 w 1) U ∧ vk_R "WhoRules$Charters" 72 "old" (ws9 w 2) U ∧ vk_R "WhoRules$Charters" 74 "gold" (ws9 w 3) U ∧ vk_R "WhoRules$Charters" 76 "sleep" (ws9 w 4) U ∧ vk_R "WhoRules$Charters" 111 "khdpv" (ws9 w 5) U ∧ vk_R "WhoRules$Charters" 117 "<=>" (ws9 w 6) U)
  ∧ va_Z "java/lang/String" "COMPACT_STRINGS" "Z" (.int 1) A U U.heap ∧ va_Zq "jdk/internal/util/Preconditions" "SIOOBE_FORMATTER" "Ljava/util/function/BiFunction;" A U U.heap
  ∧ (va_Nw (.declares ⟨"WhoRules$Holder", "begin", "(I)V"⟩) U ∧ va_Nw (.declares ⟨"WhoRules$Holder", "doVotes", "(I)I"⟩) U ∧ va_Nw (.declares ⟨"WhoRules$Holder", "doOwns", "(I)I"⟩) U)
  ∧ (∀ q ∈ castP, va_Nw (.castable q.1 q.2) U) ∧ (∀ q ∈ castN, va_Nc q.1 q.2 U)
theorem KstG (A : Nat → Prop) {w : Wd} {s U : State} (h : KXG A w s) (hq : ∀ a : Nat, a < s.heap.size → ¬ A a → U.heap[a]? = s.heap[a]?) (hv : s.WarmedH U.vm ∨ U.vm = s.vm) : KXG A w U := by
  have hal : s.vm.Alike U.vm := by
    rcases hv with hv | hv
    · exact hv.alike
    · rw [hv]; exact Vm.Alike.refl s.vm
  have hR : ∀ {k : Nat} {tx : String} {a : Nat}, vk_R "WhoRules$Charters" k tx a s → vk_R "WhoRules$Charters" k tx a U := by
    intro k tx a h
    rcases hv with hv | hv
    · exact vk_R.warm hv h
    · exact vk_R.same hv h
  have hD : ∀ {x : MethodName}, va_Nw (.declares x) s → va_Nw (.declares x) U := by
    intro x h
    rcases hv with hv | hv
    · exact va_Nw.warmD hv h
    · exact va_Nw.same rfl hv.symm h
  have hC : ∀ {C T : String}, va_Nw (.castable C T) s → va_Nw (.castable C T) U := by
    intro C T h
    rcases hv with hv | hv
    · exact va_Nw.warmC hv h
    · exact va_Nw.same rfl hv.symm h
  obtain ⟨h1, ⟨r0, r1, r2, r3, r4, r5, r6⟩, h3, h4, ⟨d0, d1, d2⟩, c0, c1⟩ := h
  exact ⟨(h1.moved hal).kept hq, ⟨hR r0, hR r1, hR r2, hR r3, hR r4, hR r5, hR r6⟩, (h3.moved hal).kept hq, (h4.moved hal).kept hq, ⟨hD d0, hD d1, hD d2⟩, fun q hq => hC (c0 q hq), fun q hq => (c1 q hq).moved hal⟩
def LHf (s : Nat) : List (Nat × Nat) := [(0, 0), (0, 0), if s = 0 then (4, 0) else (1, 10)]
def lHk (c k : Nat) : Nat × Nat × Nat := if k = 600 then (4, c, 0) else lkfC k
def lHf (s c : Nat) : List (Nat × Nat) := if c < 6 then LHf s else lffC c
def LHz : Lay := (clsC, lkfC, lHf 0, 16, KXC, fun w n => n = wa w 600)
def LHd0 (c s : Nat) : Lay := (clsC, lHk c, lHf s, 16, fun _ _ => True, fun w n => n = wa w 600 + 1)
def LHd (c s : Nat) : Lay := (clsC, lHk c, lHf s, 16, fun w => KXG (Aw (LHd0 c s) w) w, fun w n => n = wa w 600 + 1)
theorem KstH (c s : Nat) : Kst (LHd c s) := fun w _ _ h hq hv => KstG (Aw (LHd0 c s) w) h hq hv
theorem lkH_600 (c s : Nat) : lk (LHd c s) 600 = (4, c, 0) := rfl
section
variable {w : Wd} {M M' : Mm} {c s s' : Nat}
theorem rp_600 (hc : c < 6) (hij : ij (LHd c s) w) {H H1 : Heap} (h : Rp (LHd c s) w M H) (hz : H1.size = H.size) (ho : ∀ q : Nat, q ≠ wa w 600 → H1[q]? = H[q]?) (hv : va_at (wD w) clsC (wa w 600, .inr (c, fvs (wa w) (M' 600) (LHf s'))) H1) (hM : ∀ k, k ≠ 600 → M' k = M k) (hr : ∀ j, inR (M' 600 j)) : Rp (LHd c s') w M' H1 := by
  have hp6 : pr (LHd c s) w 600 := ⟨show (4 : Nat) ≠ 9 by decide, fun q => absurd (show (4 : Nat) = 8 from q) (by decide)⟩
  have n4 : ∀ k, k ≠ 600 → (lkfC k).1 = 4 → ¬ (lkfC k).2.1 < 6 := by
    intro k _ h4
    unfold lkfC at h4 ⊢
    by_cases z : 500 ≤ k ∧ k < 516
    · rw [if_pos z] at h4; exact absurd (show (8 : Nat) = 4 from h4) (by decide)
    · rw [if_neg z] at h4 ⊢
      have hall : (lklC.all fun p => !(p.1 == 4) || !(decide (p.2.1 < 6))) = true := by decide +kernel
      cases hk : lklC[k]? with
      | none => rw [hk] at h4; exact absurd (show (9 : Nat) = 4 from h4) (by decide)
      | some p =>
        rw [hk] at h4
        have hp := List.all_eq_true.mp hall p (List.mem_of_getElem? hk)
        have h4' : p.1 = 4 := h4
        simpa [h4'] using hp
  have elk : ∀ k, k ≠ 600 → lk (LHd c s') k = lkfC k := fun k hk => if_neg hk
  have elk0 : ∀ k, k ≠ 600 → lk (LHd c s) k = lkfC k := fun k hk => if_neg hk
  refine ⟨fun k hk => ?_, fun k j => ?_, ?_, ?_, ?_, ?_⟩
  · by_cases d : k = 600
    · subst d
      have ee : eO (LHd c s') w M' 600 = .inr (c, fvs (wa w) (M' 600) (LHf s')) := by
        unfold eO
        rw [lkH_600]
        show Sum.inr (c, fvs (wa w) (M' 600) (lHf s' c)) = _
        unfold lHf
        rw [if_pos hc]
      rw [ee]
      exact hv
    · have hp : pr (LHd c s) w k := by unfold pr at hk ⊢; rw [elk k d] at hk; rw [elk0 k d]; exact hk
      have ee : eO (LHd c s') w M' k = eO (LHd c s) w M k := by
        unfold eO
        rw [elk k d, elk0 k d, hM k d]
        by_cases g : (lkfC k).1 = 4
        · have g2 := n4 k d g
          have e1 : lf (LHd c s') (lkfC k).2.1 = lf (LHd c s) (lkfC k).2.1 := by
            show lHf s' (lkfC k).2.1 = lHf s (lkfC k).2.1
            unfold lHf
            rw [if_neg g2, if_neg g2]
          rw [e1]
        · split <;> first | rfl | (rename_i z; exact absurd z g)
      rw [ee]
      exact (h.1 k hp).kept (ho _ (fun q => d (hij k 600 hp hp6 q)))
  · by_cases d : k = 600
    · subst d
      have ht : tO (LHd c s') 600 j ≠ 2 ∧ tO (LHd c s') 600 j ≠ 3 := by
        unfold tO
        rw [lkH_600]
        show (((lHf s' c)[j]?).getD (0, 0)).1 ≠ 2 ∧ (((lHf s' c)[j]?).getD (0, 0)).1 ≠ 3
        unfold lHf LHf
        rw [if_pos hc]
        by_cases z : s' = 0
        · rw [if_pos z]
          rcases j with _ | _ | _ | j
          · exact ⟨by decide, by decide⟩
          · exact ⟨by decide, by decide⟩
          · exact ⟨by decide, by decide⟩
          · exact ⟨show (0 : Nat) ≠ 2 by decide, show (0 : Nat) ≠ 3 by decide⟩
        · rw [if_neg z]
          rcases j with _ | _ | _ | j
          · exact ⟨by decide, by decide⟩
          · exact ⟨by decide, by decide⟩
          · exact ⟨by decide, by decide⟩
          · exact ⟨show (0 : Nat) ≠ 2 by decide, show (0 : Nat) ≠ 3 by decide⟩
      generalize tO (LHd c s') 600 j = t at ht ⊢
      unfold rT
      split
      · exact absurd rfl ht.1
      · exact absurd rfl ht.2
      · exact hr j
    · have ee : tO (LHd c s') k j = tO (LHd c s) k j := by
        unfold tO
        rw [elk k d, elk0 k d]
        by_cases g : (lkfC k).1 = 4
        · have g2 := n4 k d g
          have e1 : lf (LHd c s') (lkfC k).2.1 = lf (LHd c s) (lkfC k).2.1 := by
            show lHf s' (lkfC k).2.1 = lHf s (lkfC k).2.1
            unfold lHf
            rw [if_neg g2, if_neg g2]
          rw [e1]
        · split <;> first | rfl | (rename_i z; exact absurd z g)
      rw [ee, hM k d]
      exact h.2.1 k j
  · rw [show lh (LHd c s') = 16 from rfl, hM 16 (by decide)]; exact h.2.2.1
  · rw [hM 900 (by decide)]; exact h.2.2.2.1
  · rw [hM 901 (by decide)]; exact h.2.2.2.2.1
  · rw [hz]; exact h.2.2.2.2.2
end
