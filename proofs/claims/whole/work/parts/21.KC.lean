/-! The layouts, with what is known of the texts and of the JDK's statics. -/
def sTx (s : Int) : List Int := if s = 0 then [110, 101, 101, 100] else if s = 1 then [109, 111, 115, 116] else if s = 2 then [111, 108, 100] else if s = 3 then [103, 111, 108, 100] else if s = 4 then [115, 108, 101, 101, 112] else if s = 5 then [107, 104, 100, 112, 118] else [60, 61, 62]
def sLen (s : Int) : Int := ((sTx s).length : Nat)
def sCh (s i : Int) : Int := ((sTx s)[i.toNat]?).getD 0
def sLens : List Nat := [4, 4, 3, 4, 5, 5, 3]
def sBys : List (List Int32) := [[110, 101, 101, 100], [109, 111, 115, 116], [111, 108, 100], [103, 111, 108, 100], [115, 108, 101, 101, 112], [107, 104, 100, 112, 118], [60, 61, 62]]
def castP : List (String × String) := [("WhoRules$Kin", "WhoRules$Person"), ("WhoRules$Club", "WhoRules$Fund"), ("WhoRules$Firm", "WhoRules$Holder"), ("WhoRules$Person", "WhoRules$Holder"), ("WhoRules$Kin", "WhoRules$Holder"), ("WhoRules$Fund", "WhoRules$Holder"), ("WhoRules$Club", "WhoRules$Holder")]
def castN : List (String × String) := [("WhoRules$Holder", "WhoRules$Firm"), ("WhoRules$Holder", "WhoRules$Person"), ("WhoRules$Holder", "WhoRules$Kin"), ("WhoRules$Holder", "WhoRules$Fund"), ("WhoRules$Holder", "WhoRules$Club"), ("WhoRules$Firm", "WhoRules$Person"), ("WhoRules$Firm", "WhoRules$Kin"), ("WhoRules$Firm", "WhoRules$Fund"), ("WhoRules$Firm", "WhoRules$Club"), ("WhoRules$Person", "WhoRules$Firm"), ("WhoRules$Person", "WhoRules$Kin"), ("WhoRules$Person", "WhoRules$Fund"), ("WhoRules$Person", "WhoRules$Club"), ("WhoRules$Kin", "WhoRules$Firm"), ("WhoRules$Kin", "WhoRules$Fund"), ("WhoRules$Kin", "WhoRules$Club"), ("WhoRules$Fund", "WhoRules$Firm"), ("WhoRules$Fund", "WhoRules$Person"), ("WhoRules$Fund", "WhoRules$Kin"), ("WhoRules$Fund", "WhoRules$Club"), ("WhoRules$Club", "WhoRules$Firm"), ("WhoRules$Club", "WhoRules$Person"), ("WhoRules$Club", "WhoRules$Kin")]
def KXC (w : Wd) (U : State) : Prop := vk_S 7 sLens sBys (ws9 w) (fun i => ws9 w (i + 7)) (Aw LC0 w) U U.heap ∧ (vk_R "WhoRules$Charters" 68 "need" (ws9 w 0) U ∧ vk_R "WhoRules$Charters" 70 "most" (ws9 w 1) U ∧ vk_R "WhoRules$Charters" 72 "old" (ws9 w 2) U ∧ vk_R "WhoRules$Charters" 74 "gold" (ws9 w 3) U ∧ vk_R "WhoRules$Charters" 76 "sleep" (ws9 w 4) U ∧ vk_R "WhoRules$Charters" 111 "khdpv" (ws9 w 5) U ∧ vk_R "WhoRules$Charters" 117 "<=>" (ws9 w 6) U)
  ∧ va_Z "java/lang/String" "COMPACT_STRINGS" "Z" (.int 1) (Aw LC0 w) U U.heap ∧ va_Zq "jdk/internal/util/Preconditions" "SIOOBE_FORMATTER" "Ljava/util/function/BiFunction;" (Aw LC0 w) U U.heap
  ∧ (va_Nw (.declares ⟨"WhoRules$Holder", "begin", "(I)V"⟩) U ∧ va_Nw (.declares ⟨"WhoRules$Holder", "doVotes", "(I)I"⟩) U ∧ va_Nw (.declares ⟨"WhoRules$Holder", "doOwns", "(I)I"⟩) U)
  ∧ (∀ q ∈ castP, va_Nw (.castable q.1 q.2) U) ∧ (∀ q ∈ castN, va_Nc q.1 q.2 U)
def LC : Lay := (clsC, lkfC, lffC, 16, KXC, fun _ _ => True)
def LR : Lay := (clsR, lkfR, lffR, 999, fun _ _ => True, fun _ _ => True)
theorem KstR : Kst LR := fun _ _ _ _ _ _ => trivial
theorem aw_C (w : Wd) : Aw LC w = Aw LC0 w := rfl
theorem KstC : Kst LC := by
  intro w s U h hq hv
  have hal : s.vm.Alike U.vm := by
    rcases hv with hv | hv
    · exact hv.alike
    · rw [hv]; exact Vm.Alike.refl s.vm
  have hR : ∀ {k : Nat} {tx : String} {a : Nat}, vk_R "WhoRules$Charters" k tx a s → vk_R "WhoRules$Charters" k tx a U := by
    intro k tx a h
    rcases hv with hv | hv
    · exact vk_R.warm hv h
    · exact vk_R.same hv h
  have hD : ∀ {x : MethodName}, va_Nw (.declares x) s → va_Nw (.declares x) U := by
    intro x h
    rcases hv with hv | hv
    · exact va_Nw.warmD hv h
    · exact va_Nw.same rfl hv.symm h
  have hC : ∀ {C T : String}, va_Nw (.castable C T) s → va_Nw (.castable C T) U := by
    intro C T h
    rcases hv with hv | hv
    · exact va_Nw.warmC hv h
    · exact va_Nw.same rfl hv.symm h
  obtain ⟨h1, ⟨r0, r1, r2, r3, r4, r5, r6⟩, h3, h4, ⟨d0, d1, d2⟩, c0, c1⟩ := h
  exact ⟨(h1.moved hal).kept hq, ⟨hR r0, hR r1, hR r2, hR r3, hR r4, hR r5, hR r6⟩, (h3.moved hal).kept hq, (h4.moved hal).kept hq, ⟨hD d0, hD d1, hD d2⟩, fun q hq => hC (c0 q hq), fun q hq => (c1 q hq).moved hal⟩
