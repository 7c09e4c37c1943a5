/-! The row that stores the new holder; Register.enter; WhoRules.holder. -/
def HX (w w' : Wd) : Prop := w' = w ∨ ∃ (c : Nat) (fam : Int), (0 ≤ wn w ∧ wn w < 16) ∧ w' = hW w (c : Int) fam
/-- the end of a method that may make one holder: in the world w, or in that with one more -/
def QHo (w : Wd) (r : Int) (M1 : Mm) : Array Value → State → Outcome → State → Prop := fun _ st oc u => oc = .returned (some (.int (i32 r))) ∧ inR r ∧ (∃ w', HX w w' ∧ Rp LC w' M1 u.heap) ∧ va_F (Aw (LHd0 0 0) w) st u
def CtH (w : Wd) (y : MethodName) (code : ByteArray) (maxL fr lo : Nat) (As : List Value) (M : Mm) (r : Int) (M1 : Mm) : Prop :=
  ∀ l : Launch, Met l y (wsOf y code maxL (some .int)) { frames := fr, cells := 1, slots := 3, locals := lo } (va_Pc As (Bx LHy w M)) (QHo w r M1) 1 3 (Aw (LHd0 0 0) w)
def GH (w : Wd) (X : Cx) (own : String) (cc : ByteArray) (nL fr lo : Nat) : Prop :=
  Gc LHy w X own cc nL fr lo ∧ (xM X).sig.returnType = some .int ∧ xA X = Aw (LHd0 0 0) w ∧ xcn X = 0 ∧ xsn X = 0 ∧ (xR X).cells = 1 ∧ (xR X).slots = 3 ∧ xQ X = (fun _ r M1 => MQ (xb X) (QHo w r M1) (xa X) (xs X) 1 3 (xA X))
theorem ij_hd {w : Wd} {c s c' s' : Nat} (h : ij (LHd c s) w) : ij (LHd c' s') w := fun k k' h1 h2 e => h k k' ((pr_hd_iff c' s' c s k).mp h1) ((pr_hd_iff c' s' c s k').mp h2) e
theorem CtH.of {w : Wd} {y : MethodName} {code : ByteArray} {maxL fr lo : Nat} {As : List Value} {M M1 : Mm} {r : Int} (hij : ij (LHd 0 0) w) (hy : plainName y.cls = true) (hlen : (lg_sl As).length ≤ maxL)
    (body : ∀ X : Cx, GH w X y.cls code maxL fr lo → VJ LHy w X maxL 1 r M1 M (lv_args 0 As) [] 0) : CtH w y code maxL fr lo As M r M1 := by
  intro l
  refine Met.ofW (cc := code) (maxL := maxL) (ret := some .int) hy rfl ?_
  intro p e s m args below meth c s₁ B hml hv
  obtain ⟨rfl, hP, hKs, hXs⟩ := hv
  have hts := atoms_spec (ws := wsOf y code maxL (some .int)) B.pre
  have hl := lv_entry As (n := maxL) hlen
  rw [lg_entry_eq]
  exact body ((p, l, e, _), (s, m, As.toArray, below), (meth, c, 0, 0, Aw (LHd0 0 0) w, fun _ r M1 => MQ below (QHo w r M1) As.toArray s 1 3 (Aw (LHd0 0 0) w))) ⟨⟨B.exec, B.bytes, hml, findClass_of_methodNamed B.named, fun c hc => hts c (List.mem_cons_of_mem _ hc), hKs, hXs, B.notSynchronized, ⟨fun q h => by obtain ⟨k, h1, h2⟩ := h; exact ⟨k, (pr_hy (c := 0) h1).2, h2⟩, fun q hq h => by
    obtain ⟨k, h1, h2⟩ := h
    by_cases d : k = 600
    · subst d
      have e1 : s.heap.size = wa w 600 := hP.2.2.2.2.2
      rw [h2] at hq
      have hq : wa w 600 < s.heap.size := hq
      omega
    · refine ⟨k, ?_, h2⟩
      unfold pr at h1 ⊢
      have e1 : lk (LHd0 0 0) k = lk LHy k := if_neg d
      rw [e1] at h1
      exact h1, Nat.zero_le _, Nat.zero_le _⟩, hy_ij hij, KstY, Nat.le_refl _, Nat.le_refl _⟩, B.returns, rfl, rfl, rfl, rfl, rfl, rfl⟩ s.heap [] _ hP va_S.rf hl
/-- the same cells under another layout of the same rows -/
theorem rp_sw {L L' : Lay} {w : Wd} {M : Mm} {H : Heap} (e1 : lC L' = lC L) (e2 : ∀ k, lk L' k = lk L k) (e3 : ∀ k, (lk L k).1 = 4 → lf L' (lk L k).2.1 = lf L (lk L k).2.1) (e4 : lh L' = lh L) (hz : lz L' w H.size) (h : Rp L w M H) : Rp L' w M H := by
  refine ⟨fun k hk => ?_, fun k j => ?_, by rw [e4]; exact h.2.2.1, h.2.2.2.1, h.2.2.2.2.1, hz⟩
  · have hp : pr L w k := by unfold pr at hk ⊢; rw [e2 k] at hk; exact hk
    have ee : eO L' w M k = eO L w M k := by
      unfold eO
      rw [e2 k]
      by_cases g : (lk L k).1 = 4
      · rw [e3 k g]
      · split <;> first | rfl | (rename_i z; exact absurd z g)
    rw [ee, e1]
    exact h.1 k hp
  · have ee : tO L' k j = tO L k j := by
      unfold tO
      rw [e2 k]
      by_cases g : (lk L k).1 = 4
      · rw [e3 k g]
      · split <;> first | rfl | (rename_i z; exact absurd z g)
    rw [ee]
    exact h.2.1 k j
theorem lff_hy {k : Nat} (g : (lkfC k).1 = 4) (s : Nat) : lHf s (lkfC k).2.1 = lffC (lkfC k).2.1 := by
  have g2 : ¬ (lkfC k).2.1 < 6 := by
    by_cases z : 500 ≤ k ∧ k < 516
    · have el : lkfC k = (8, k - 500, 10) := if_pos z
      rw [el] at g
      exact absurd (show (8 : Nat) = 4 from g) (by decide)
    · have hk : k < 210 := by
        rcases Nat.lt_or_ge k 210 with q | q
        · exact q
        · rw [tb_far q z] at g
          exact absurd (show (9 : Nat) = 4 from g) (by decide)
      rcases tb_all k hk with T | T
      · omega
      · have := T.2.1 g
        omega
  exact if_neg g2
theorem rp_hy_C {w : Wd} {M : Mm} {H : Heap} (h : Rp LHy w M H) : Rp LC w M H := rp_sw (L := LHy) (L' := LC) rfl (fun _ => rfl) (fun k g => (lff_hy (k := k) g 0).symm) rfl trivial h
theorem rp_C_hy {w : Wd} {M : Mm} {H : Heap} (h : Rp LC w M H) (hz : H.size = wa w 600) : Rp LHy w M H := rp_sw (L := LC) (L' := LHy) rfl (fun _ => rfl) (fun k g => lff_hy (k := k) g 0) rfl hz h
/-- cell 600 isn't there yet -/
theorem rp_hy6 {w : Wd} {M M' : Mm} {H : Heap} (hM : ∀ k, k ≠ 600 → M' k = M k) (h6 : ∀ j, inR (M' 600 j)) (h : Rp LHy w M H) : Rp LHy w M' H := by
  refine ⟨fun k hk => ?_, fun k j => ?_, ?_, ?_, ?_, h.2.2.2.2.2⟩
  · have ee : eO LHy w M' k = eO LHy w M k := by
      unfold eO
      rw [hM k (pr_hy (c := 0) hk).1]
    rw [ee]; exact h.1 k hk
  · by_cases d : k = 600
    · subst d; exact h6 j
    · rw [hM k d]; exact h.2.1 k j
  · show M' 16 0 = wn w
    rw [hM 16 (by decide)]; exact h.2.2.1
  · rw [hM 900 (by decide)]; exact h.2.2.2.1
  · rw [hM 901 (by decide)]; exact h.2.2.2.2.1
theorem vj_to {L L' : Lay} {w w' : Wd} {X : Cx} {nL t pc : Nat} {r : Int} {M1 M M' : Mm} {lv : List (Nat × Value)} {st : List Value} (h : ∀ H : Heap, Rp L w M H → Rp L' w' M' H) (kk : VJ L' w' X nL t r M1 M' lv st pc) : VJ L w X nL t r M1 M lv st pc := fun H locs ls hP hS hl => kk H locs ls (h H hP) hS hl
/-- the end of a method that may make a holder -/
theorem vj_hret {L : Lay} {w9 w : Wd} {X : Cx} {cc : ByteArray} {nL pc : Nat} {v : Int} {M : Mm} {lv : List (Nat × Value)} (hx : (xp X).tables.exec = Jvm.exec) (hb : (xc X).code = cc) (hlk : (xM X).locks = false) (hr : (xM X).sig.returnType = some .int) (hA : xA X = Aw (LHd0 0 0) w) (hc : xcn X ≤ 1) (hs : xsn X ≤ 3) (hQ : xQ X = (fun _ r M1 => MQ (xb X) (QHo w r M1) (xa X) (xs X) 1 3 (xA X)))
    (hRp : ∀ H : Heap, Rp L w9 M H → ∃ w', HX w w' ∧ Rp LC w' M H) (hv : inR v) (hdg : decode cc pc = .ok (.ireturn, 1)) : VJ L w9 X nL 1 v M M lv [.int (i32 v)] pc := by
  intro H locs ls hP hS hl
  rw [show xQ X = _ from hQ]
  rw [hA] at hS ⊢
  refine W.widen hc hs ?_
  exact W.iret (v := i32 v) hx hb hr (fun u hu _ => ⟨rfl, hv, by rw [hu]; exact hRp H hP, hS.F hu⟩) hS.2.2 hdg hlk
/-- a call that may make a holder -/
theorem vj_callHo {w : Wd} {X : Cx} {own : String} {cc : ByteArray} {nL fr lo t pc : Nat} {r : Int} {M1 M : Mm} {lv : List (Nat × Value)} {st st0 : List Value} (GX : GH w X own cc nL fr lo) {y : MethodName} {code : ByteArray} {maxL : Nat} {f2 l2 idx k ci : Nat} {As : List Value} {r1 : Int} {M2 : Mm} {C : String} {T : u_T} {N n : Nat}
    (hC : CtH w y code maxL f2 l2 (.ref (wa w k) :: As) M r1 M2) (hk : lk LHy k = (4, ci, 0)) (hc : (lC LHy)[ci]? = some (C, T, N)) (hy : y.cls = C) (q1 : Cond.methodLink own idx y ∈ ALL) (cq : cqV y code maxL (some .int) n) (hn : As.length = n)
    (hf : f2 + 1 ≤ fr) (hlo : 8 + (maxL + 11) + l2 ≤ lo) (hW : (st.map fun v => v.category).sum ≤ 8) (hdg : decode cc pc = .ok (.invokevirtual idx, 3)) (hst : st0 = As.reverse ++ .ref (wa w k) :: st)
    (kk : inR r1 → ∀ w', HX w w' → VJ LC w' (xInc X 1 3) nL t r M1 M2 lv (.int (i32 r1) :: st) (pc + 3)) : VJ LHy w X nL t r M1 M lv st0 pc := by
  have G := GX.1
  subst hst
  intro H locs ls hP hS hl T0 hT Y
  have hr : va_Run (xp X) (xl X) (xe X) (xR X) (xs X) (xm X) (xa X) (xb X) (xM X) (xc X) H locs (xcn X) (xsn X) 1 3 (F0 (xm X) pc ls (As.reverse ++ .ref (wa w k) :: st)) st (QHo w r1 M2 (Value.ref (wa w k) :: As).toArray) (Aw (LHd0 0 0) w) := by
    have hcw := cwV (R := xR X) (s := xs X) (args := xa X) (Ts := ALL) (own := own) (index := idx) (C := C) (y := y) (bytes := code) (maxL := maxL) (ret := some .int) (ws := wsOf y code maxL (some .int)) (ws' := ALL) (rm := { frames := f2, cells := 1, slots := 3, locals := l2 }) (mc := 1) (ms := 3) n G.2.2.2.2.1 (by
        unfold wsV
        refine lt_all (fun c hc1 => ?_) cq.2.2.2.1
        simp only [List.mem_cons, List.not_mem_nil, or_false] at hc1
        rcases hc1 with rfl | rfl | rfl | rfl
        · exact q1
        · exact cq.1
        · rw [← hy]; exact cq.2.1
        · rw [← hy]; exact cq.2.2.1) rfl rfl rfl ⟨hy, cq.2.2.2.2⟩ ⟨Nat.le_trans hf G.2.2.2.2.2.2.2.2.2.2.2.1, Nat.le_trans hlo G.2.2.2.2.2.2.2.2.2.2.2.2⟩
    refine va_runV (As := As) (rest := st) ⟨G.1, G.2.1, G.2.2.1, G.2.2.2.1, G.2.2.2.2.1⟩ (hC (xl X)) hcw ⟨bx_blind G.2.2.2.2.2.2.2.2.2.2.1 _, ?_, bx_at G hP hS _⟩ rfl hn hl.1 rfl (lv_room hW) hdg ⟨by rw [GX.2.2.2.1, GX.2.2.2.2.2.1]; exact Nat.le_refl _, by rw [GX.2.2.2.2.1, GX.2.2.2.2.2.2.1]; exact Nat.le_refl _⟩
    obtain ⟨r9, h1, cell, z1, z2, z3, -⟩ := rp_obj hP hk
    have hr9 : r9 = (C, T, N) := Option.some.inj (h1.symm.trans hc)
    subst hr9
    exact ⟨cell, z1, by rw [z3]; rfl, by rw [z2]; exact (G.2.2.2.2.2.1.1 ci _ hc).2.1⟩
  obtain ⟨v, st₀, u, T', Ls, h0, Y', hL, e1, e2, ⟨hv, hR, ⟨w', hw', hP2⟩, hF⟩, stp⟩ := hr T0 hT Y
  cases hv
  have hA : ∀ q, Aw (LHd0 0 0) w q → xA X q := fun q h => by rw [GX.2.2.1]; exact h
  have hS2 : va_S (xA X) (xs X).heap T'.heap (locs ++ Ls) := by
    refine ⟨?_, fun q h1 h2 => ?_, fun q hq => ?_⟩
    · rw [e1]; exact Nat.le_trans hS.1 (by rw [← h0]; exact hF.1)
    · rw [e1, hF.2 q (by rw [h0]; exact Nat.lt_of_lt_of_le h1 hS.1) (fun z => h2 (hA q z)), h0]
      exact hS.2.1 q h1 h2
    · rcases List.mem_append.mp hq with h | h
      · exact hS.2.2 q h
      · exact hA _ (hL q h)
  obtain ⟨t2, a1, b1⟩ := kk hR w' hw' T'.heap (locs ++ Ls) ls (by rw [e1]; exact hP2) hS2 hl T' rfl Y'
  exact ⟨t2, stp t2 a1, b1⟩
theorem gc_hd1 {w : Wd} {X : Cx} {c : Nat} {own : String} {cc : ByteArray} {nL fr lo : Nat} (G : Gc (LHd c 0) w X own cc nL fr lo) (hij : ij (LHd c 0) w) : Gc (LHd c 1) w X own cc nL fr lo := by
  obtain ⟨g1, g2, g3, g4, g5, g6, g7, g8, g9, g10, g11, g12, g13⟩ := G
  exact ⟨g1, g2, g3, g4, g5, g6, g7, g8, g9, ij_hd hij, KstH c 1, g12, g13⟩
theorem gc_born {w : Wd} {X : Cx} {c : Nat} {x fam : Int} {own : String} {cc : ByteArray} {nL fr lo : Nat} (hn : 0 ≤ wn w ∧ wn w < 16) (G : Gc (LHd c 1) w X own cc nL fr lo) (hij : ij (LHd c 0) w) : Gc LC (hW w x fam) X own cc nL fr lo := by
  obtain ⟨g1, g2, g3, g4, g5, g6, g7, g8, g9, g10, g11, g12, g13⟩ := G
  have ea : Aw LC (hW w x fam) = Aw (LHd c 1) w := (aw_hW hn).trans (aw_hd0 0 0 c 1)
  refine ⟨g1, g2, g3, g4, g5, g6, ?_, g8, ?_, ij_hW hn hij, KstC, g12, g13⟩
  · have h : KXG (Aw (LHd c 1) w) w (xs X) := g7
    show KXG (Aw LC (hW w x fam)) w (xs X)
    rw [ea]
    exact h
  · rw [ea]
    exact g9
theorem asg_of {U : State} {C : String} {cC comp : ClassId} {A : Array Value} (hcls : ClassAt U C cC) (hca : va_Nw (.castable C "WhoRules$Holder") U) (k3 : U.vm.findClass "WhoRules$Holder" = some comp) : U.vm.assignable cC comp = true := by
  obtain ⟨c0, t1, f1, f2, f3⟩ := Cond.castable_spec (va_Nw.use (A := A) rfl hca)
  cases hcls.1.symm.trans f1
  cases k3.symm.trans f2
  exact f3
theorem asg_hd {w : Wd} {U : State} {c : Nat} {comp : ClassId} {r9 : vw_C} {A : Array Value} (hc : c < 6) (hK : va_K (wD w) clsC (tys w) U) (hcl : clsC[c]? = some r9) (hX : ∀ q ∈ castP, va_Nw (.castable q.1 q.2) U) (k3 : U.vm.findClass "WhoRules$Holder" = some comp) : U.vm.assignable ((wD w).1 c) comp = true := by
  have hcls := (hK.1 c r9 hcl).2
  have ec : c = 0 ∨ c = 1 ∨ c = 2 ∨ c = 3 ∨ c = 4 ∨ c = 5 := by omega
  rcases ec with rfl | rfl | rfl | rfl | rfl | rfl
  · cases hcl
    have e : comp = (wD w).1 0 := Option.some.inj (k3.symm.trans hcls.1)
    rw [e]
    exact va_assign hcls
  · cases hcl
    exact asg_of (A := A) hcls (hX ("WhoRules$Firm", "WhoRules$Holder") (by decide)) k3
  · cases hcl
    exact asg_of (A := A) hcls (hX ("WhoRules$Person", "WhoRules$Holder") (by decide)) k3
  · cases hcl
    exact asg_of (A := A) hcls (hX ("WhoRules$Kin", "WhoRules$Holder") (by decide)) k3
  · cases hcl
    exact asg_of (A := A) hcls (hX ("WhoRules$Fund", "WhoRules$Holder") (by decide)) k3
  · cases hcl
    exact asg_of (A := A) hcls (hX ("WhoRules$Club", "WhoRules$Holder") (by decide)) k3
theorem vj_born {w : Wd} {X : Cx} {c : Nat} {fam h : Int} {own : String} {cc : ByteArray} {nL fr lo t pc : Nat} {r : Int} {M1 M M' : Mm} {lv : List (Nat × Value)} {st : List Value} (G : Gc (LHd c 1) w X own cc nL fr lo) (hc : c < 6) (hn : 0 ≤ wn w ∧ wn w < 16) (hij : ij (LHd c 0) w) (hh : h = wn w) (h600 : M 600 0 = wn w) (h601 : M 600 1 = fam) (hf : inR fam) (hM : ∀ k, k ≠ 600 → M' k = M k) (hM6 : ∀ j, inR (M' 600 j)) (hdg : decode cc pc = .ok (.aastore, 1))
    (kk : VJ LC (hW w (c : Int) fam) X nL t r M1 (bornM M' (wn w).toNat (c : Int) fam) lv st (pc + 1)) : VJ (LHd c 1) w X nL t r M1 M lv (.ref (wa w 600) :: .int (i32 h) :: .ref (wa w 16) :: st) pc := by
  subst hh
  intro H locs ls hP hS hl
  have hK := G.2.2.2.2.2.1
  have hk16 : lk (LHd c 1) 16 = (7, 16, 500) := rfl
  have hp : pr (LHd c 1) w 16 := ⟨show (7 : Nat) ≠ 9 by decide, fun q => absurd (show (7 : Nat) = 8 from q) (by decide)⟩
  obtain ⟨r9, h1, cell, z1, z2, z3, -⟩ := rp_obj hP (lkH_600 c 1)
  have hcls := (hK.1 c r9 h1).2
  obtain ⟨kA, comp, k1, k2, k3, -⟩ := (hK.2 6 _ rfl).2
  obtain ⟨kE, hkE, -⟩ := Vm.findClass_spec k3
  obtain ⟨kC, hkC, -⟩ := hcls.2
  have hX : KXG (Aw (LHd0 c 1) w) w (xs X) := G.2.2.2.2.2.2.1
  have hasg := asg_hd (A := xa X) hc hK h1 hX.2.2.2.2.2.1 k3
  have hin := i32_in (x := wn w) (n := 16) hn (by decide)
  refine W.aast G.1 G.2.1 (rp_ar7 hP hk16) (fun q h => by cases h) (fun h => by cases h) k1 k2 rfl hkE ⟨fun q => hin (Or.inl q), by rw [arrV_size]; exact Nat.not_le.mp fun q => hin (Or.inr q)⟩ z1 (fun q h => by rw [z3] at h; cases h) (by rw [z2]; exact hkC) (by rw [z2]; exact hasg) rfl rfl hdg fun H1 e z oq => ?_
  refine kk H1 _ ls (rp_born hc hn hij hP h600 h601 hf hM hM6 oq ?_) (hS.put z oq (G.2.2.2.2.2.2.2.2.1.1 _ ⟨16, hp, rfl⟩)) hl
  rw [e, arrV_store, i32_nat hn (by decide), vp_cell_q]
  congr 2
  funext q
  show updV _ _ _ q = _
  unfold updV
  by_cases d : q = (wn w).toNat
  · rw [if_pos d, if_pos d]; rfl
  · rw [if_neg d, if_neg d]
