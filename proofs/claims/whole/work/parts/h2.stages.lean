/-! Written by wip/whole/gen/inits.py. The constructors' stages. -/
def evC : List Nat := [1, 4, 34, 52, 76, 96, 0, 0, 0, 0, 2, 113, 115, 117, 119, 121, 5, 7, 9, 11, 13, 15, 17, 19, 21, 23, 25, 27, 29, 31, 35, 37, 39, 41, 43, 45, 47, 49, 53, 55, 57, 59, 61, 63, 65, 67, 69, 71, 77, 79, 81, 83, 85, 87, 89, 91, 97, 99, 101, 103, 105, 107, 109, 0, 0, 0, 0, 0, 0, 0, 0, 0, 0, 0, 0, 0, 0, 0, 0, 0, 0, 0, 0, 0, 0, 0, 0, 0, 0, 0, 0, 0, 0, 0, 0, 0, 0, 0, 0, 0, 121, 121, 121, 121, 121, 121, 0, 0, 0, 0, 53, 53, 53, 53, 53, 53, 53, 53, 53, 53, 53, 53, 53, 53, 53, 53, 0, 0, 0, 0, 61, 61, 61, 61, 61, 61, 61, 61, 61, 61, 61, 61, 61, 61, 61, 61, 0, 0, 0, 0, 69, 69, 69, 69, 69, 69, 69, 69, 69, 69, 69, 69, 69, 69, 69, 69, 0, 0, 0, 0, 79, 79, 79, 79, 79, 0, 0, 0, 0, 0, 97, 97, 97, 97, 97, 97, 97, 97, 97, 97, 97, 97, 97, 97, 97, 97, 0, 0, 0, 0, 109, 109, 109, 109, 109, 109, 109]
def efC : List (List Nat) := [[], [], [], [], [], [], [3, 33, 51, 75, 95, 112, 114, 116, 0, 118, 120, 122], [0, 0, 0, 0, 0, 6, 8, 10, 12, 14, 16, 18, 20, 22, 24, 26, 0, 28, 30, 32], [0, 0, 36, 0, 38, 40, 42, 44, 46, 48, 50, 0], [73, 74, 0, 54, 56, 58, 60, 62, 64, 66, 68, 70, 72, 0], [93, 94, 78, 0, 80, 82, 84, 86, 88, 90, 92, 0], [111, 98, 100, 102, 104, 106, 108, 110, 0, 0]]
def cnC : List Nat := [0, 0, 1, 2, 2, 3, 4, 4, 5, 5, 6, 6, 7, 7, 8, 8, 9, 9, 10, 10, 11, 11, 12, 12, 13, 13, 14, 14, 15, 15, 16, 16, 17, 17, 17, 18, 19, 19, 20, 20, 21, 21, 22, 22, 23, 23, 24, 24, 25, 25, 26, 26, 26, 27, 44, 44, 45, 45, 46, 46, 47, 47, 64, 64, 65, 65, 66, 66, 67, 67, 84, 84, 85, 85, 85, 85, 85, 86, 87, 87, 93, 93, 94, 94, 95, 95, 96, 96, 97, 97, 98, 98, 99, 99, 99, 99, 99, 100, 117, 117, 118, 118, 119, 119, 120, 120, 121, 121, 122, 122, 130, 130, 130, 130, 131, 131, 132, 132, 133, 133, 134, 134, 141, 141]
def oaC : List Nat := [0, 2, 17, 26, 85, 99, 0, 0, 0, 0, 1, 130, 131, 132, 133, 134, 3, 4, 5, 6, 7, 8, 9, 10, 11, 12, 13, 14, 15, 16, 18, 19, 20, 21, 22, 23, 24, 25, 27, 44, 45, 46, 47, 64, 65, 66, 67, 84, 86, 87, 93, 94, 95, 96, 97, 98, 100, 117, 118, 119, 120, 121, 122, 0, 0, 0, 0, 0, 0, 0, 0, 0, 0, 0, 0, 0, 0, 0, 0, 0, 0, 0, 0, 0, 0, 0, 0, 0, 0, 0, 0, 0, 0, 0, 0, 0, 0, 0, 0, 0, 135, 136, 137, 138, 139, 140, 0, 0, 0, 0, 28, 29, 30, 31, 32, 33, 34, 35, 36, 37, 38, 39, 40, 41, 42, 43, 0, 0, 0, 0, 48, 49, 50, 51, 52, 53, 54, 55, 56, 57, 58, 59, 60, 61, 62, 63, 0, 0, 0, 0, 68, 69, 70, 71, 72, 73, 74, 75, 76, 77, 78, 79, 80, 81, 82, 83, 0, 0, 0, 0, 88, 89, 90, 91, 92, 0, 0, 0, 0, 0, 101, 102, 103, 104, 105, 106, 107, 108, 109, 110, 111, 112, 113, 114, 115, 116, 0, 0, 0, 0, 123, 124, 125, 126, 127, 128, 129]
def ozC : List Nat := [0, 10, 1, 16, 17, 18, 19, 20, 21, 22, 23, 24, 25, 26, 27, 28, 29, 2, 30, 31, 32, 33, 34, 35, 36, 37, 3, 38, 110, 111, 112, 113, 114, 115, 116, 117, 118, 119, 120, 121, 122, 123, 124, 125, 39, 40, 41, 42, 130, 131, 132, 133, 134, 135, 136, 137, 138, 139, 140, 141, 142, 143, 144, 145, 43, 44, 45, 46, 150, 151, 152, 153, 154, 155, 156, 157, 158, 159, 160, 161, 162, 163, 164, 165, 47, 4, 48, 49, 170, 171, 172, 173, 174, 50, 51, 52, 53, 54, 55, 5, 56, 180, 181, 182, 183, 184, 185, 186, 187, 188, 189, 190, 191, 192, 193, 194, 195, 57, 58, 59, 60, 61, 62, 200, 201, 202, 203, 204, 205, 206, 11, 12, 13, 14, 15, 100, 101, 102, 103, 104, 105]
def evR : List Nat := [1, 2, 4, 6, 8, 10, 12, 14, 16, 18, 20, 22, 24, 26, 28, 30, 32, 34, 36, 38, 40, 42, 44, 46, 48, 50, 52, 54, 56, 58, 60, 62, 64, 66, 68, 70, 72, 74, 76, 78, 80, 82, 84, 86, 88, 90, 92, 94, 96, 98, 100]
def efR : List (List Nat) := [[0, 0, 0, 0, 0, 3, 5, 7, 9, 11, 13, 15, 17, 19, 21, 23, 0, 0, 0, 0, 25, 27, 29, 31, 33, 35, 37, 39, 0, 0, 0, 0, 0, 0, 41, 43, 0, 0, 0, 45, 47, 49, 51, 53, 55, 57, 59, 61, 0, 63, 65, 0, 67, 69, 71, 0, 73, 75, 77, 79, 0, 0, 0, 0, 81, 83, 85, 87, 89, 91, 0, 0, 93, 95, 97, 99, 101]]
def cnR : List Nat := [0, 0, 1, 2, 2, 3, 3, 4, 4, 5, 5, 6, 6, 7, 7, 8, 8, 9, 9, 10, 10, 11, 11, 12, 12, 13, 13, 14, 14, 15, 15, 16, 16, 17, 17, 18, 18, 19, 19, 20, 20, 21, 21, 22, 22, 23, 23, 24, 24, 25, 25, 26, 26, 27, 27, 28, 28, 29, 29, 30, 30, 31, 31, 32, 32, 33, 33, 34, 34, 35, 35, 36, 36, 37, 37, 38, 38, 39, 39, 40, 40, 41, 41, 42, 42, 43, 43, 44, 44, 45, 45, 46, 46, 47, 47, 48, 48, 49, 49, 50, 50, 51, 51]
def oaR : List Nat := [0, 1, 2, 3, 4, 5, 6, 7, 8, 9, 10, 11, 12, 13, 14, 15, 16, 17, 18, 19, 20, 21, 22, 23, 24, 25, 26, 27, 28, 29, 30, 31, 32, 33, 34, 35, 36, 37, 38, 39, 40, 41, 42, 43, 44, 45, 46, 47, 48, 49, 50]
def ozR : List Nat := [0, 1, 2, 3, 4, 5, 6, 7, 8, 9, 10, 11, 12, 13, 14, 15, 16, 17, 18, 19, 20, 21, 22, 23, 24, 25, 26, 27, 28, 29, 30, 31, 32, 33, 34, 35, 36, 37, 38, 39, 40, 41, 42, 43, 44, 45, 46, 47, 48, 49, 50]
theorem qn_139 : Cond.instantiable "WhoRules$Register" 20 ∈ ALL := all_in 139 (by decide +kernel) rfl
theorem qn_1538 : Cond.arrayClass .boolean ∈ ALL := all_in 1538 (by decide +kernel) rfl
theorem qn_250 : Cond.arrayClass .int ∈ ALL := all_in 250 (by decide +kernel) rfl
theorem qn_252 : Cond.instantiable "WhoRules$Charters" 12 ∈ ALL := all_in 252 (by decide +kernel) rfl
theorem qn_296 : Cond.arrayClass .byte ∈ ALL := all_in 296 (by decide +kernel) rfl
theorem qn_298 : Cond.instantiable "WhoRules$Rule" 14 ∈ ALL := all_in 298 (by decide +kernel) rfl
theorem qn_359 : Cond.instantiable "WhoRules$Search" 12 ∈ ALL := all_in 359 (by decide +kernel) rfl
theorem qn_403 : Cond.instantiable "WhoRules$Flow" 10 ∈ ALL := all_in 403 (by decide +kernel) rfl
theorem qn_445 : Cond.arrayClass .long ∈ ALL := all_in 445 (by decide +kernel) rfl
theorem ord_C : ∀ i, i < 207 → (lkfC i).1 ≠ 9 → evO ozC (evO oaC i) = i := by decide +kernel
theorem ord_R : ∀ i, i < 51 → evO ozR (evO oaR i) = i := by decide +kernel
def KX9 (w : Wd) (U : State) : Prop := KXC w U ∧ va_AO "WhoRules$Holder" U ∧ (Cond.arrayOver (.array .int)).before #[] U = true ∧ (Cond.arrayOver (.array .long)).before #[] U = true ∧ va_Nw (.methodLinkNest "WhoRules" 17 ⟨"WhoRules$Register", "<init>", "()V"⟩ "WhoRules") U ∧ va_Nw (.methodLinkNest "WhoRules" 24 ⟨"WhoRules$Charters", "<init>", "()V"⟩ "WhoRules") U
def LC9 : Lay := (clsC, lkfC, lffC, 16, KX9, fun _ _ => True)
theorem KstLC9 : Kst LC9 := by
  intro w s U h hq hv
  have hal : s.vm.Alike U.vm := by
    rcases hv with hv | hv
    · exact hv.alike
    · rw [hv]; exact Vm.Alike.refl s.vm
  have hN : ∀ {a : String} {i : Nat} {x : MethodName} {h : String}, va_Nw (.methodLinkNest a i x h) s → va_Nw (.methodLinkNest a i x h) U := by
    intro a i x h hz
    rcases hv with hv | hv
    · exact va_Nw.warmM hv hz
    · exact va_Nw.same rfl hv.symm hz
  have h : KX9 w s := h
  obtain ⟨h1, h2, h3, h4, h5, h6⟩ := h
  exact ⟨KstC w s U h1 hq hv, h2.moved hal, over_moved hal h3, over_moved hal h4, hN h5, hN h6⟩
theorem KstLR : Kst LR := KstR
def WCC (w : Wd) : Prop := ij LC9 w ∧ (∀ k, wa w k = wa w 0 + evO oaC k) ∧ wn w = 0
def WCR (w : Wd) : Prop := ij LR w ∧ (∀ k, wa w k = wa w 0 + evO oaR k) ∧ wn w = 0
def Z0 : Mm := fun _ _ => 0
theorem tb_ob : ∀ i, i < 210 → (lkfC i).1 = 4 → i = (lkfC i).2.1 - 6 ∧ 6 ≤ (lkfC i).2.1 := by decide +kernel
theorem obC_all {c k' : Nat} (h4 : (lk LC9 k').1 = 4) (hc : (lk LC9 k').2.1 = c) : k' = c - 6 := by
  have h4 : (lkfC k').1 = 4 := h4
  have hc : (lkfC k').2.1 = c := hc
  by_cases z : 500 ≤ k' ∧ k' < 516
  · have el : lkfC k' = (8, k' - 500, 10) := if_pos z
    rw [el] at h4
    exact absurd (show (8 : Nat) = 4 from h4) (by decide)
  · have hk : k' < 210 := by
      rcases Nat.lt_or_ge k' 210 with q | q
      · exact q
      · rw [tb_far q z] at h4
        exact absurd (show (9 : Nat) = 4 from h4) (by decide)
    have := (tb_ob k' hk h4).1
    rw [hc] at this
    exact this
theorem obC_6 : ∀ k', (lk LC9 k').1 = 4 → (lk LC9 k').2.1 = 6 → k' = 0 := fun _ h g => obC_all h g
theorem obC_7 : ∀ k', (lk LC9 k').1 = 4 → (lk LC9 k').2.1 = 7 → k' = 1 := fun _ h g => obC_all h g
theorem obC_8 : ∀ k', (lk LC9 k').1 = 4 → (lk LC9 k').2.1 = 8 → k' = 2 := fun _ h g => obC_all h g
theorem obC_9 : ∀ k', (lk LC9 k').1 = 4 → (lk LC9 k').2.1 = 9 → k' = 3 := fun _ h g => obC_all h g
theorem obC_10 : ∀ k', (lk LC9 k').1 = 4 → (lk LC9 k').2.1 = 10 → k' = 4 := fun _ h g => obC_all h g
theorem obC_11 : ∀ k', (lk LC9 k').1 = 4 → (lk LC9 k').2.1 = 11 → k' = 5 := fun _ h g => obC_all h g
theorem tb_obR : ∀ i, i < 51 → (lkfR i).1 = 4 → i = 0 := by decide +kernel
theorem obR_0 : ∀ k', (lk LR k').1 = 4 → (lk LR k').2.1 = 0 → k' = 0 := by
  intro k' h _
  have h : (lkfR k').1 = 4 := h
  rcases Nat.lt_or_ge k' 51 with q | q
  · exact tb_obR k' q h
  · have e : lkfR k' = (9, 0, 0) := by
      unfold lkfR
      rw [List.getElem?_eq_none (show lklR.length ≤ k' from q)]
      rfl
    rw [e] at h
    exact absurd (show (9 : Nat) = 4 from h) (by decide)
/-- a new object's fields: none is set -/
theorem df_gen {ty0 : Nat → FieldType} {N e : Nat} {ev : Nat → Nat} {fs : List (Nat × Nat)} {a : Nat → Nat} (hl : fs.length = N) (h1 : ∀ j, j < N → (fs.getD j (0, 0)).1 = 1 → e ≤ ev j) (h2 : ∀ j, j < N → defaultValue (ty0 j) = (if (fs.getD j (0, 0)).1 = 1 then .null else if (fs.getD j (0, 0)).1 = 2 then .long 0 else .int 0) ∧ (fs.getD j (0, 0)).1 ≠ 4) (j : Nat) (hj : j < N) : defaultValue (ty0 j) = vp_V (fvs a (fun _ => 0) (stFl e ev fs)) j := by
  have hj2 : j < fs.length := by omega
  obtain ⟨p, hp⟩ : ∃ p, fs[j]? = some p := ⟨fs[j], List.getElem?_eq_getElem hj2⟩
  have h1 := h1 j hj
  have h2 := h2 j hj
  rw [List.getD_eq_getElem?_getD, hp] at h1 h2
  have h1 : p.1 = 1 → e ≤ ev j := h1
  have h2 : defaultValue (ty0 j) = (if p.1 = 1 then .null else if p.1 = 2 then .long 0 else .int 0) ∧ p.1 ≠ 4 := h2
  have e1 : (fvs a (fun _ => 0) (stFl e ev fs))[j]? = some (fv a (fun _ => 0) j (if p.1 = 1 ∧ e ≤ ev j then (4, 0) else p)) := by
    rw [fvs_at, stFl_at, hp]
    rfl
  have e2 : vp_V (fvs a (fun _ => 0) (stFl e ev fs)) j = fv a (fun _ => 0) j (if p.1 = 1 ∧ e ≤ ev j then (4, 0) else p) := by
    unfold vp_V
    rw [List.getD_eq_getElem?_getD, e1]
    rfl
  rw [e2, h2.1]
  by_cases c1 : p.1 = 1
  · rw [if_pos c1, if_pos ⟨c1, h1 c1⟩]
    rfl
  · have c3 : ¬ (p.1 = 1 ∧ e ≤ ev j) := fun q => c1 q.1
    rw [if_neg c1, if_neg c3]
    unfold fv
    rw [if_neg c1]
    by_cases c2 : p.1 = 2
    · rw [if_pos c2, if_pos c2]; rfl
    · rw [if_neg c2, if_neg c2, if_neg h2.2]; rfl
abbrev SgC (e : Nat) : Lay := SLy LC9 evC efC cnC 0 e
abbrev SgR (e : Nat) : Lay := SLy LR evR efR cnR 0 e
theorem dfC_6 {w : Wd} {k : Nat} (e : Nat) (h : ∀ j, j < 12 → ((lffC 6).getD j (0, 0)).1 = 1 → e ≤ evG efC 6 j) : ∀ j, j < 12 → defaultValue (ty_W j) = vp_V (fvs (wa w) (Z0 k) (stFl e (evG efC 6) (lf LC9 6))) j := fun j hj => df_gen (fs := lffC 6) (ty0 := ty_W) rfl h (fun j hj => match j, hj with | 0, _ => ⟨rfl, by decide⟩ | 1, _ => ⟨rfl, by decide⟩ | 2, _ => ⟨rfl, by decide⟩ | 3, _ => ⟨rfl, by decide⟩ | 4, _ => ⟨rfl, by decide⟩ | 5, _ => ⟨rfl, by decide⟩ | 6, _ => ⟨rfl, by decide⟩ | 7, _ => ⟨rfl, by decide⟩ | 8, _ => ⟨rfl, by decide⟩ | 9, _ => ⟨rfl, by decide⟩ | 10, _ => ⟨rfl, by decide⟩ | 11, _ => ⟨rfl, by decide⟩ | n + 12, q => absurd q (Nat.not_lt.mpr (Nat.le_add_left _ _))) j hj
theorem dfC_7 {w : Wd} {k : Nat} (e : Nat) (h : ∀ j, j < 20 → ((lffC 7).getD j (0, 0)).1 = 1 → e ≤ evG efC 7 j) : ∀ j, j < 20 → defaultValue (ty_R j) = vp_V (fvs (wa w) (Z0 k) (stFl e (evG efC 7) (lf LC9 7))) j := fun j hj => df_gen (fs := lffC 7) (ty0 := ty_R) rfl h (fun j hj => match j, hj with | 0, _ => ⟨rfl, by decide⟩ | 1, _ => ⟨rfl, by decide⟩ | 2, _ => ⟨rfl, by decide⟩ | 3, _ => ⟨rfl, by decide⟩ | 4, _ => ⟨rfl, by decide⟩ | 5, _ => ⟨rfl, by decide⟩ | 6, _ => ⟨rfl, by decide⟩ | 7, _ => ⟨rfl, by decide⟩ | 8, _ => ⟨rfl, by decide⟩ | 9, _ => ⟨rfl, by decide⟩ | 10, _ => ⟨rfl, by decide⟩ | 11, _ => ⟨rfl, by decide⟩ | 12, _ => ⟨rfl, by decide⟩ | 13, _ => ⟨rfl, by decide⟩ | 14, _ => ⟨rfl, by decide⟩ | 15, _ => ⟨rfl, by decide⟩ | 16, _ => ⟨rfl, by decide⟩ | 17, _ => ⟨rfl, by decide⟩ | 18, _ => ⟨rfl, by decide⟩ | 19, _ => ⟨rfl, by decide⟩ | n + 20, q => absurd q (Nat.not_lt.mpr (Nat.le_add_left _ _))) j hj
theorem dfC_8 {w : Wd} {k : Nat} (e : Nat) (h : ∀ j, j < 12 → ((lffC 8).getD j (0, 0)).1 = 1 → e ≤ evG efC 8 j) : ∀ j, j < 12 → defaultValue (ty_C j) = vp_V (fvs (wa w) (Z0 k) (stFl e (evG efC 8) (lf LC9 8))) j := fun j hj => df_gen (fs := lffC 8) (ty0 := ty_C) rfl h (fun j hj => match j, hj with | 0, _ => ⟨rfl, by decide⟩ | 1, _ => ⟨rfl, by decide⟩ | 2, _ => ⟨rfl, by decide⟩ | 3, _ => ⟨rfl, by decide⟩ | 4, _ => ⟨rfl, by decide⟩ | 5, _ => ⟨rfl, by decide⟩ | 6, _ => ⟨rfl, by decide⟩ | 7, _ => ⟨rfl, by decide⟩ | 8, _ => ⟨rfl, by decide⟩ | 9, _ => ⟨rfl, by decide⟩ | 10, _ => ⟨rfl, by decide⟩ | 11, _ => ⟨rfl, by decide⟩ | n + 12, q => absurd q (Nat.not_lt.mpr (Nat.le_add_left _ _))) j hj
theorem dfC_9 {w : Wd} {k : Nat} (e : Nat) (h : ∀ j, j < 14 → ((lffC 9).getD j (0, 0)).1 = 1 → e ≤ evG efC 9 j) : ∀ j, j < 14 → defaultValue (ty_U j) = vp_V (fvs (wa w) (Z0 k) (stFl e (evG efC 9) (lf LC9 9))) j := fun j hj => df_gen (fs := lffC 9) (ty0 := ty_U) rfl h (fun j hj => match j, hj with | 0, _ => ⟨rfl, by decide⟩ | 1, _ => ⟨rfl, by decide⟩ | 2, _ => ⟨rfl, by decide⟩ | 3, _ => ⟨rfl, by decide⟩ | 4, _ => ⟨rfl, by decide⟩ | 5, _ => ⟨rfl, by decide⟩ | 6, _ => ⟨rfl, by decide⟩ | 7, _ => ⟨rfl, by decide⟩ | 8, _ => ⟨rfl, by decide⟩ | 9, _ => ⟨rfl, by decide⟩ | 10, _ => ⟨rfl, by decide⟩ | 11, _ => ⟨rfl, by decide⟩ | 12, _ => ⟨rfl, by decide⟩ | 13, _ => ⟨rfl, by decide⟩ | n + 14, q => absurd q (Nat.not_lt.mpr (Nat.le_add_left _ _))) j hj
theorem dfC_10 {w : Wd} {k : Nat} (e : Nat) (h : ∀ j, j < 12 → ((lffC 10).getD j (0, 0)).1 = 1 → e ≤ evG efC 10 j) : ∀ j, j < 12 → defaultValue (ty_S j) = vp_V (fvs (wa w) (Z0 k) (stFl e (evG efC 10) (lf LC9 10))) j := fun j hj => df_gen (fs := lffC 10) (ty0 := ty_S) rfl h (fun j hj => match j, hj with | 0, _ => ⟨rfl, by decide⟩ | 1, _ => ⟨rfl, by decide⟩ | 2, _ => ⟨rfl, by decide⟩ | 3, _ => ⟨rfl, by decide⟩ | 4, _ => ⟨rfl, by decide⟩ | 5, _ => ⟨rfl, by decide⟩ | 6, _ => ⟨rfl, by decide⟩ | 7, _ => ⟨rfl, by decide⟩ | 8, _ => ⟨rfl, by decide⟩ | 9, _ => ⟨rfl, by decide⟩ | 10, _ => ⟨rfl, by decide⟩ | 11, _ => ⟨rfl, by decide⟩ | n + 12, q => absurd q (Nat.not_lt.mpr (Nat.le_add_left _ _))) j hj
theorem dfC_11 {w : Wd} {k : Nat} (e : Nat) (h : ∀ j, j < 10 → ((lffC 11).getD j (0, 0)).1 = 1 → e ≤ evG efC 11 j) : ∀ j, j < 10 → defaultValue (ty_F j) = vp_V (fvs (wa w) (Z0 k) (stFl e (evG efC 11) (lf LC9 11))) j := fun j hj => df_gen (fs := lffC 11) (ty0 := ty_F) rfl h (fun j hj => match j, hj with | 0, _ => ⟨rfl, by decide⟩ | 1, _ => ⟨rfl, by decide⟩ | 2, _ => ⟨rfl, by decide⟩ | 3, _ => ⟨rfl, by decide⟩ | 4, _ => ⟨rfl, by decide⟩ | 5, _ => ⟨rfl, by decide⟩ | 6, _ => ⟨rfl, by decide⟩ | 7, _ => ⟨rfl, by decide⟩ | 8, _ => ⟨rfl, by decide⟩ | 9, _ => ⟨rfl, by decide⟩ | n + 10, q => absurd q (Nat.not_lt.mpr (Nat.le_add_left _ _))) j hj
theorem dfR_0 {w : Wd} {k : Nat} (e : Nat) (h : ∀ j, j < 77 → ((lffR 0).getD j (0, 0)).1 = 1 → e ≤ evG efR 0 j) : ∀ j, j < 77 → defaultValue (ty_m j) = vp_V (fvs (wa w) (Z0 k) (stFl e (evG efR 0) (lf LR 0))) j := fun j hj => df_gen (fs := lffR 0) (ty0 := ty_m) rfl h (fun j hj => match j, hj with | 0, _ => ⟨rfl, by decide⟩ | 1, _ => ⟨rfl, by decide⟩ | 2, _ => ⟨rfl, by decide⟩ | 3, _ => ⟨rfl, by decide⟩ | 4, _ => ⟨rfl, by decide⟩ | 5, _ => ⟨rfl, by decide⟩ | 6, _ => ⟨rfl, by decide⟩ | 7, _ => ⟨rfl, by decide⟩ | 8, _ => ⟨rfl, by decide⟩ | 9, _ => ⟨rfl, by decide⟩ | 10, _ => ⟨rfl, by decide⟩ | 11, _ => ⟨rfl, by decide⟩ | 12, _ => ⟨rfl, by decide⟩ | 13, _ => ⟨rfl, by decide⟩ | 14, _ => ⟨rfl, by decide⟩ | 15, _ => ⟨rfl, by decide⟩ | 16, _ => ⟨rfl, by decide⟩ | 17, _ => ⟨rfl, by decide⟩ | 18, _ => ⟨rfl, by decide⟩ | 19, _ => ⟨rfl, by decide⟩ | 20, _ => ⟨rfl, by decide⟩ | 21, _ => ⟨rfl, by decide⟩ | 22, _ => ⟨rfl, by decide⟩ | 23, _ => ⟨rfl, by decide⟩ | 24, _ => ⟨rfl, by decide⟩ | 25, _ => ⟨rfl, by decide⟩ | 26, _ => ⟨rfl, by decide⟩ | 27, _ => ⟨rfl, by decide⟩ | 28, _ => ⟨rfl, by decide⟩ | 29, _ => ⟨rfl, by decide⟩ | 30, _ => ⟨rfl, by decide⟩ | 31, _ => ⟨rfl, by decide⟩ | 32, _ => ⟨rfl, by decide⟩ | 33, _ => ⟨rfl, by decide⟩ | 34, _ => ⟨rfl, by decide⟩ | 35, _ => ⟨rfl, by decide⟩ | 36, _ => ⟨rfl, by decide⟩ | 37, _ => ⟨rfl, by decide⟩ | 38, _ => ⟨rfl, by decide⟩ | 39, _ => ⟨rfl, by decide⟩ | 40, _ => ⟨rfl, by decide⟩ | 41, _ => ⟨rfl, by decide⟩ | 42, _ => ⟨rfl, by decide⟩ | 43, _ => ⟨rfl, by decide⟩ | 44, _ => ⟨rfl, by decide⟩ | 45, _ => ⟨rfl, by decide⟩ | 46, _ => ⟨rfl, by decide⟩ | 47, _ => ⟨rfl, by decide⟩ | 48, _ => ⟨rfl, by decide⟩ | 49, _ => ⟨rfl, by decide⟩ | 50, _ => ⟨rfl, by decide⟩ | 51, _ => ⟨rfl, by decide⟩ | 52, _ => ⟨rfl, by decide⟩ | 53, _ => ⟨rfl, by decide⟩ | 54, _ => ⟨rfl, by decide⟩ | 55, _ => ⟨rfl, by decide⟩ | 56, _ => ⟨rfl, by decide⟩ | 57, _ => ⟨rfl, by decide⟩ | 58, _ => ⟨rfl, by decide⟩ | 59, _ => ⟨rfl, by decide⟩ | 60, _ => ⟨rfl, by decide⟩ | 61, _ => ⟨rfl, by decide⟩ | 62, _ => ⟨rfl, by decide⟩ | 63, _ => ⟨rfl, by decide⟩ | 64, _ => ⟨rfl, by decide⟩ | 65, _ => ⟨rfl, by decide⟩ | 66, _ => ⟨rfl, by decide⟩ | 67, _ => ⟨rfl, by decide⟩ | 68, _ => ⟨rfl, by decide⟩ | 69, _ => ⟨rfl, by decide⟩ | 70, _ => ⟨rfl, by decide⟩ | 71, _ => ⟨rfl, by decide⟩ | 72, _ => ⟨rfl, by decide⟩ | 73, _ => ⟨rfl, by decide⟩ | 74, _ => ⟨rfl, by decide⟩ | 75, _ => ⟨rfl, by decide⟩ | 76, _ => ⟨rfl, by decide⟩ | n + 77, q => absurd q (Nat.not_lt.mpr (Nat.le_add_left _ _))) j hj
