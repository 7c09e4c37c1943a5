/-! The law's call of holder: the class's world may grow. -/
def LIw (X : Cx) (w wR : Wd) : Prop := ij LC w ∧ va_K (wD w) clsC (tys w) (xs X) ∧ KXG (fun q => (xs X).heap.size ≤ q) w (xs X) ∧ (∀ q, Aw LC w q → (xs X).heap.size ≤ q) ∧ (∀ q, Aw LR wR q → ¬ Aw LC w q)
def RI (X : Cx) (wR : Wd) : Prop := ij LR wR ∧ va_K (wD wR) clsR (tys wR) (xs X) ∧ (∀ q, Aw LR wR q → (xs X).heap.size ≤ q)
def BL (X : Cx) : Prop := (xp X).tables.exec = Jvm.exec ∧ (xc X).code = code ∧ (xc X).maxLocals = 4 ∧ (xs X).vm.findClass "WhoRulesLaw" = some (xm X).cls ∧ (∀ c ∈ ALL, c.before (xa X) (xs X) = true) ∧ (xM X).locks = false ∧ xA X = (fun q => (xs X).heap.size ≤ q) ∧ xR X = room_1 ∧ xcn X = 0 ∧ xsn X = 0
section
variable {X : Cx} {w wR : Wd} {M N : Mm} {a b z : Nat}
theorem gl_C (B : BL X) (I : LIw X w wR) (hr : a ≤ 600000 ∧ b ≤ 7302250) : Gc LC w (xInc X a b) "WhoRulesLaw" code 4 2048 84000 := by
  obtain ⟨b1, b2, b3, b4, b5, b6, b7, b8, b9, b10⟩ := B
  obtain ⟨i1, i2, i3, i4, i5⟩ := I
  refine ⟨b1, b2, b3, b4, b5, i2, ?_, b6, ⟨fun q h => ?_, fun q h1 h2 => ?_, ?_, ?_⟩, i1, KstC, ?_, ?_⟩
  · have h : KXG (Aw LC0 w) w (xs X) := i3.nar (fun q h => i4 q h)
    exact h
  · show xA X q
    rw [b7]; exact i4 q h
  · have h2 : xA X q := h2
    rw [b7] at h2
    exact absurd h1 (Nat.not_lt.mpr h2)
  · show xcn X + a ≤ (xR X).cells
    rw [b9, b8, Nat.zero_add]; exact hr.1
  · show xsn X + b ≤ (xR X).slots
    rw [b10, b8, Nat.zero_add]; exact hr.2
  · show 2048 ≤ (xR X).frames
    rw [b8]; exact Nat.le_refl _
  · show 84000 ≤ (xR X).locals
    rw [b8]; exact Nat.le_refl _
theorem gl_R (B : BL X) (I : RI X wR) (hr : a ≤ 600000 ∧ b ≤ 7302250) : Gc LR wR (xInc X a b) "WhoRulesLaw" code 4 2048 84000 := by
  obtain ⟨b1, b2, b3, b4, b5, b6, b7, b8, b9, b10⟩ := B
  obtain ⟨i1, i2, i4⟩ := I
  refine ⟨b1, b2, b3, b4, b5, i2, trivial, b6, ⟨fun q h => ?_, fun q h1 h2 => ?_, ?_, ?_⟩, i1, KstR, ?_, ?_⟩
  · show xA X q
    rw [b7]; exact i4 q h
  · have h2 : xA X q := h2
    rw [b7] at h2
    exact absurd h1 (Nat.not_lt.mpr h2)
  · show xcn X + a ≤ (xR X).cells
    rw [b9, b8, Nat.zero_add]; exact hr.1
  · show xsn X + b ≤ (xR X).slots
    rw [b10, b8, Nat.zero_add]; exact hr.2
  · show 2048 ≤ (xR X).frames
    rw [b8]; exact Nat.le_refl _
  · show 84000 ≤ (xR X).locals
    rw [b8]; exact Nat.le_refl _
/-- the world, with the heap's end as the next cell -/
def w6of (w : Wd) (z : Nat) : Wd := (wD w, wT w, fun k => if k = 600 then z else wa w k, wn w, ws9 w, wK w, wF w)
theorem w6_j {k : Nat} (h : k ≠ 600) : wa (w6of w z) k = wa w k := if_neg h
theorem w6_s : wa (w6of w z) 600 = z := by show (if (600 : Nat) = 600 then z else wa w 600) = z; exact if_pos rfl
theorem pr_w6 {k : Nat} : pr LC (w6of w z) k ↔ pr LC w k := Iff.rfl
theorem aw_w6 : Aw LC (w6of w z) = Aw LC w := by
  funext q
  apply propext
  constructor
  · intro ⟨k, h1, h2⟩
    have d6 : k ≠ 600 := fun d6 => pr_600 (d6 ▸ h1)
    rw [w6_j d6] at h2
    exact ⟨k, h1, h2⟩
  · intro ⟨k, h1, h2⟩
    have d6 : k ≠ 600 := fun d6 => pr_600 (d6 ▸ h1)
    exact ⟨k, h1, by rw [w6_j d6]; exact h2⟩
theorem aw_h6 {q : Nat} (h : Aw (LHd0 0 0) (w6of w z) q) : Aw LC w q ∨ q = z := by
  obtain ⟨k, h1, h2⟩ := h
  by_cases d6 : k = 600
  · subst d6
    rw [w6_s] at h2
    exact Or.inr h2
  · rw [w6_j d6] at h2
    exact Or.inl ⟨k, (pr_hd_of d6).mp h1, h2⟩
theorem ij_w6 (h : ij LC w) (hz : ∀ q, Aw LC w q → q < z) : ij (LHd 0 0) (w6of w z) := by
  intro k k' h1 h2 e
  have h1 : pr (LHd0 0 0) (w6of w z) k := h1
  have h2 : pr (LHd0 0 0) (w6of w z) k' := h2
  by_cases d : k = 600 <;> by_cases d' : k' = 600
  · rw [d, d']
  · have p2 := (pr_hd_of d').mp h2
    have := hz (wa w k') ⟨k', p2, rfl⟩
    rw [d, w6_s, w6_j d'] at e
    omega
  · have p1 := (pr_hd_of d).mp h1
    have := hz (wa w k) ⟨k, p1, rfl⟩
    rw [d', w6_s, w6_j d] at e
    omega
  · rw [w6_j d, w6_j d'] at e
    exact h k k' ((pr_hd_of d).mp h1) ((pr_hd_of d').mp h2) e
theorem rp_w6 {H : Heap} (h : Rp LC w M H) : Rp LC (w6of w z) M H := by
  refine ⟨fun k hk => ?_, h.2.1, h.2.2.1, h.2.2.2.1, h.2.2.2.2.1, trivial⟩
  have hk : pr LC w k := hk
  have d6 : k ≠ 600 := fun d6 => pr_600 (d6 ▸ hk)
  have h0 := h.1 k hk
  rw [w6_j d6]
  have e2 : lk LC k = lkfC k := rfl
  by_cases y : 500 ≤ k ∧ k < 516
  · have el : lkfC k = (8, k - 500, 10) := if_pos y
    unfold eO at h0 ⊢
    rw [e2, el] at h0 ⊢
    have a3 : wa (w6of w z) 10 = wa w 10 := w6_j (by decide)
    show va_at (wD w) clsC (wa w k, .inr ((wK w (k - 500)).toNat, [.int (i32 ((k - 500 : Nat) : Int)), .int (i32 (wF w (k - 500))), .ref (wa (w6of w z) 10)])) H
    rw [a3]
    exact h0
  · have h9 : (lkfC k).1 ≠ 9 := hk.1
    have hk2 : k < 210 := by
      rcases Nat.lt_or_ge k 210 with q | q
      · exact q
      · exact absurd (by rw [tb_far q y]) h9
    have T := tb_all k hk2
    unfold eO at h0 ⊢
    rw [e2] at h0 ⊢
    rcases hp : lkfC k with ⟨a, b, d⟩
    rw [hp] at h0 h9 T
    have h9 : a ≠ 9 := h9
    have T : a = 9 ∨ (a ≤ 7 ∧ (a = 4 → 6 ≤ b ∧ b < 12) ∧ (a = 5 ∨ a = 6 → d + b ≤ 500) ∧ (a = 7 → k = 16)) := T
    have T := T.resolve_left h9
    have ha : a = 0 ∨ a = 1 ∨ a = 2 ∨ a = 3 ∨ a = 4 ∨ a = 5 ∨ a = 6 ∨ a = 7 := by omega
    rcases ha with rfl | rfl | rfl | rfl | rfl | rfl | rfl | rfl
    · exact h0
    · exact h0
    · exact h0
    · exact h0
    · have hb := T.2.1 rfl
      show va_at (wD w) clsC (wa w k, .inr (b, fvs (wa (w6of w z)) (M k) (lffC b))) H
      have e : fvs (wa (w6of w z)) (M k) (lffC b) = fvs (wa w) (M k) (lffC b) := by
        refine fvs_cg fun j p hj => ?_
        have hj2 : j < 20 := Nat.lt_of_lt_of_le (lt_len hj) (tb_fl b hb.2)
        have h1 := tb_ff b hb.2 j hj2
        rw [hj] at h1
        have h1 : p.1 = 1 → p.2 < 500 := h1
        unfold fv
        by_cases d1 : p.1 = 1
        · have h2 := h1 d1
          rw [if_pos d1, if_pos d1, w6_j (by omega)]
        · rw [if_neg d1, if_neg d1]
      rw [e]
      exact h0
    · have hb := T.2.2.1 (Or.inl rfl)
      show H[wa w k]? = some (vp_cell (wT w 4) (b, .inr (.inr (.inr (.inr (fun j => some (wa (w6of w z) (d + j))))))))
      rw [refs_cg (g := fun j => some (wa w (d + j))) (fun j hj => by rw [w6_j (by omega)])]
      exact h0
    · have hb := T.2.2.1 (Or.inr rfl)
      show H[wa w k]? = some (vp_cell (wT w 5) (b, .inr (.inr (.inr (.inr (fun j => some (wa (w6of w z) (d + j))))))))
      rw [refs_cg (g := fun j => some (wa w (d + j))) (fun j hj => by rw [w6_j (by omega)])]
      exact h0
    · have h16 := T.2.2.2 rfl
      subst h16
      have e16 : lkfC 16 = (7, 16, 500) := by decide +kernel
      rw [e16] at hp
      cases hp
      show H[wa w 16]? = some (vp_cell (wT w 6) (16, .inr (.inr (.inr (.inr (fun j => if (j : Int) < wn w then some (wa (w6of w z) (500 + j)) else none))))))
      rw [refs_cg (g := fun j => if (j : Int) < wn w then some (wa w (500 + j)) else none) (fun j hj => by rw [w6_j (by omega)])]
      exact h0
/-- a run of a call that may make a holder -/
theorem run_H {own : String} {cc : ByteArray} {nL fr lo pc : Nat} {st : List Value} (G : Gc LHy w X own cc nL fr lo) {y : MethodName} {c9 : ByteArray} {maxL : Nat} {f2 l2 idx k ci : Nat} {As : List Value} {r1 : Int} {M2 : Mm} {C : String} {T : u_T} {Nf n : Nat} {H : Heap} {locs : List Loc} {ls : Array Slot}
    (hC : CtH w y c9 maxL f2 l2 (.ref (wa w k) :: As) M r1 M2) (hk : lk LHy k = (4, ci, 0)) (hc : (lC LHy)[ci]? = some (C, T, Nf)) (hy : y.cls = C) (q1 : Cond.methodLink own idx y ∈ ALL) (cq : cqV y c9 maxL (some .int) n) (hn : As.length = n)
    (hf : f2 + 1 ≤ fr ∧ 8 + (maxL + 11) + l2 ≤ lo) (hr : xcn X + 1 ≤ (xR X).cells ∧ xsn X + 3 ≤ (xR X).slots) (hW : (st.map fun v => v.category).sum ≤ 8) (hdg : decode cc pc = .ok (.invokevirtual idx, 3)) (hP : Rp LHy w M H) (hS : va_S (xA X) (xs X).heap H locs) {lv0 : List (Nat × Value)} (hl : lv_has ls nL lv0) :
    va_Run (xp X) (xl X) (xe X) (xR X) (xs X) (xm X) (xa X) (xb X) (xM X) (xc X) H locs (xcn X) (xsn X) 1 3 (F0 (xm X) pc ls (As.reverse ++ .ref (wa w k) :: st)) st (QHo w r1 M2 (Value.ref (wa w k) :: As).toArray) (Aw (LHd0 0 0) w) := by
  have hcw := cwV (R := xR X) (s := xs X) (args := xa X) (Ts := ALL) (own := own) (index := idx) (C := C) (y := y) (bytes := c9) (maxL := maxL) (ret := some .int) (ws := wsOf y c9 maxL (some .int)) (ws' := ALL) (rm := { frames := f2, cells := 1, slots := 3, locals := l2 }) (mc := 1) (ms := 3) n G.2.2.2.2.1 (by
      unfold wsV
      refine lt_all (fun c hc1 => ?_) cq.2.2.2.1
      simp only [List.mem_cons, List.not_mem_nil, or_false] at hc1
      rcases hc1 with rfl | rfl | rfl | rfl
      · exact q1
      · exact cq.1
      · rw [← hy]; exact cq.2.1
      · rw [← hy]; exact cq.2.2.1) rfl rfl rfl ⟨hy, cq.2.2.2.2⟩ ⟨Nat.le_trans hf.1 G.2.2.2.2.2.2.2.2.2.2.2.1, Nat.le_trans hf.2 G.2.2.2.2.2.2.2.2.2.2.2.2⟩
  refine va_runV (As := As) (rest := st) ⟨G.1, G.2.1, G.2.2.1, G.2.2.2.1, G.2.2.2.2.1⟩ (hC (xl X)) hcw ⟨bx_blind G.2.2.2.2.2.2.2.2.2.2.1 _, ?_, bx_at G hP hS _⟩ rfl hn hl.1 rfl (lv_room hW) hdg hr
  obtain ⟨r9, h1, cell, z1, z2, z3, -⟩ := rp_obj hP hk
  have hr9 : r9 = (C, T, Nf) := Option.some.inj (h1.symm.trans hc)
  subst hr9
  exact ⟨cell, z1, by rw [z3]; rfl, by rw [z2]; exact (G.2.2.2.2.2.1.1 ci _ hc).2.1⟩
theorem lj_callHo {pc : Nat} {lv : List (Nat × Value)} {st st0 : List Value} (B : BL X) (I : LIw X w wR) {y : MethodName} {c9 : ByteArray} {maxL : Nat} {f2 l2 idx n : Nat} {As : List Value} {r1 : Int} {M2 : Mm}
    (hC : ∀ w6, ij (LHd 0 0) w6 → CtH w6 y c9 maxL f2 l2 (.ref (wa w6 0) :: As) M r1 M2) (hy : y.cls = "WhoRules") (q1 : Cond.methodLink "WhoRulesLaw" idx y ∈ ALL) (cq : cqV y c9 maxL (some .int) n) (hn : As.length = n) (hf : f2 + 1 ≤ 2048 ∧ 8 + (maxL + 11) + l2 ≤ 84000) (hr : a + 1 ≤ 600000 ∧ b + 3 ≤ 7302250) (hW : (st.map fun v => v.category).sum ≤ 8) (hdg : decode code pc = .ok (.invokevirtual idx, 3)) (hst : st0 = As.reverse ++ .ref (wa w 0) :: st)
    (kk : inR r1 → ∀ w', LIw X w' wR → wa w' 0 = wa w 0 → LJ LR (xInc X (a + 1) (b + 3)) w' wR M2 N lv (.int (i32 r1) :: st) (pc + 3)) : LJ LR (xInc X a b) w wR M N lv st0 pc := by
  subst hst
  intro H locs ls hP hR hS hl T0 hT Y
  have hlive : ∀ q, Aw LC w q → q < H.size := fun q ⟨k, h1, h2⟩ => by rw [h2]; exact (hP.1 k h1).lt
  have hliveR : ∀ q, Aw LR wR q → q < H.size := fun q ⟨k, h1, h2⟩ => by rw [h2]; exact (hR.1 k h1).lt
  have hij6 : ij (LHd 0 0) (w6of w H.size) := ij_w6 I.1 hlive
  have hP6 : Rp LHy (w6of w H.size) M H := rp_C_hy (rp_w6 hP) w6_s.symm
  have hsz : (xs X).heap.size ≤ H.size := hS.1
  have hA6 : ∀ q, Aw (LHd0 0 0) (w6of w H.size) q → (xs X).heap.size ≤ q := fun q h => by
    rcases aw_h6 h with h | h
    · exact I.2.2.2.1 q h
    · rw [h]; exact hsz
  obtain ⟨b1, b2, b3, b4, b5, b6, b7, b8, b9, b10⟩ := B
  have hr2 : xcn (xInc X a b) + 1 ≤ (xR (xInc X a b)).cells ∧ xsn (xInc X a b) + 3 ≤ (xR (xInc X a b)).slots := by
    show xcn X + a + 1 ≤ (xR X).cells ∧ xsn X + b + 3 ≤ (xR X).slots
    rw [b8, b9, b10, Nat.zero_add, Nat.zero_add]
    exact hr
  have hXA : ∀ q, Aw (LHd0 0 0) (w6of w H.size) q → xA (xInc X a b) q := fun q h => by
    show xA X q
    rw [b7]; exact hA6 q h
  have G6 : Gc LHy (w6of w H.size) (xInc X a b) "WhoRulesLaw" code 4 2048 84000 := by
    refine ⟨b1, b2, b3, b4, b5, I.2.1, ?_, b6, ⟨fun q h => ?_, fun q h1 h2 => ?_, by have := hr2.1; omega, by have := hr2.2; omega⟩, hy_ij hij6, KstY, ?_, ?_⟩
    · have h : KXG (fun q => (xs X).heap.size ≤ q) (w6of w H.size) (xs X) := I.2.2.1
      exact h.nar hA6
    · obtain ⟨k, p1, p2⟩ := h
      exact hXA q ⟨k, (pr_hy (c := 0) p1).2, p2⟩
    · have h2 : xA X q := h2
      rw [b7] at h2
      exact absurd h1 (Nat.not_lt.mpr h2)
    · show 2048 ≤ (xR X).frames
      rw [b8]; exact Nat.le_refl _
    · show 84000 ≤ (xR X).locals
      rw [b8]; exact Nat.le_refl _
  have hC6 := hC _ hij6
  have e0 : wa (w6of w H.size) 0 = wa w 0 := w6_j (by decide)
  rw [← e0]
  obtain ⟨v, st₀, u, T', Ls, h0, Y', hL, e1, e2, ⟨hv, hRr, ⟨w', hw', hP2⟩, hF⟩, stp⟩ := run_H G6 hC6 lkC_0 clC_6 hy q1 cq hn hf hr2 hW hdg hP6 hS hl T0 hT Y
  cases hv
  have hS2 : va_S (xA X) (xs X).heap T'.heap (locs ++ Ls) := by rw [e1]; exact s_join hXA hS h0 hF hL
  have hR2 : Rp LR wR N T'.heap := rp_keep hR (fun q hq hlt => by
    rw [e1, hF.2 q (by rw [h0]; exact hlt) (fun z => by
      rcases aw_h6 z with h | h
      · exact I.2.2.2.2 q hq h
      · omega), h0]) trivial
  have hAw : ∀ q, Aw LC w' q → Aw LC w q ∨ q = H.size := by
    intro q h
    rcases hw' with rfl | ⟨c, fam, hn2, rfl⟩
    · rw [aw_w6] at h
      exact Or.inl h
    · rw [aw_hW hn2] at h
      exact aw_h6 h
  have hI : LIw X w' wR := by
    refine ⟨?_, ?_, ?_, fun q h => ?_, fun q hq h => ?_⟩
    · rcases hw' with rfl | ⟨c, fam, hn2, rfl⟩
      · intro k k' h1 h2 e
        have d1 : k ≠ 600 := fun d => pr_600 (d ▸ h1)
        have d2 : k' ≠ 600 := fun d => pr_600 (d ▸ h2)
        exact hij6 k k' ((pr_hd_of d1).mpr h1) ((pr_hd_of d2).mpr h2) e
      · exact ij_hW hn2 hij6
    · rcases hw' with rfl | ⟨c, fam, hn2, rfl⟩
      · exact I.2.1
      · exact I.2.1
    · rcases hw' with rfl | ⟨c, fam, hn2, rfl⟩
      · exact I.2.2.1
      · exact I.2.2.1
    · rcases hAw q h with h | h
      · exact I.2.2.2.1 q h
      · rw [h]; exact hsz
    · rcases hAw q h with h | h
      · exact I.2.2.2.2 q hq h
      · have := hliveR q hq
        omega
  have hw0 : wa w' 0 = wa w 0 := by
    rcases hw' with rfl | ⟨c, fam, hn2, rfl⟩
    · exact e0
    · rw [hW_j (by omega)]; exact e0
  have k2 : LJ LR (xInc (xInc X a b) 1 3) w' wR M2 N lv (.int (i32 r1) :: st) (pc + 3) := by rw [xInc_add]; exact kk hRr w' hI hw0
  obtain ⟨t2, a1, c1⟩ := k2 T'.heap (locs ++ Ls) ls (by rw [e1]; exact hP2) hR2 hS2 hl T' rfl Y'
  exact ⟨t2, stp t2 a1, c1⟩
end
