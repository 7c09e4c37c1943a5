/-! Holders: objects that come one by one; virtual and super calls on them. -/
def hH (w : Wd) (x c : Int) : Prop := 0 ≤ x ∧ x < 16 ∧ x < wn w ∧ wK w x.toNat = c
theorem hH_r {w : Wd} {x c : Int} (h : hH w x c) : inR x := ⟨by have := h.1; omega, by have := h.2.1; omega⟩
theorem lk_500 : ∀ i, i < 16 → lk LC (500 + i) = (8, i, 10) := by decide +kernel
theorem mr_v901 {M : Mm} (hM : MRk LC M) (j : Nat) : inR (M 901 j) := by
  have h := hM 901 j
  have e : tO LC 901 j = 0 := rfl
  rw [e] at h
  exact h
section HOLD
variable {w : Wd} {X : Cx} {own : String} {cc : ByteArray} {nL fr lo : Nat} {t : Nat} {r : Int} {M1 M : Mm} {lv : List (Nat × Value)} {st st0 : List Value} {pc : Nat}
theorem rp_hold {H : Heap} {x c : Int} (hP : Rp LC w M H) (h : hH w x c) : va_at (wD w) (lC LC) (wa w (500 + x.toNat), .inr (c.toNat, [.int (i32 x), .int (i32 (wF w x.toNat)), .ref (wa w 10)])) H := by
  obtain ⟨h1, h2, h3, h4⟩ := h
  have hk := lk_500 x.toNat (by omega)
  have hp : pr LC w (500 + x.toNat) := ⟨by rw [hk]; show (8 : Nat) ≠ 9; decide, fun _ => by rw [hk]; show ((x.toNat : Nat) : Int) < wn w; omega⟩
  have h5 := hP.1 _ hp
  unfold eO at h5
  rw [hk] at h5
  have e : ((x.toNat : Nat) : Int) = x := by omega
  have h6 : va_at (wD w) (lC LC) (wa w (500 + x.toNat), .inr ((wK w x.toNat).toNat, [.int (i32 ((x.toNat : Nat) : Int)), .int (i32 (wF w x.toNat)), .ref (wa w 10)])) H := h5
  rw [e, h4] at h6
  exact h6
theorem hold_recv (G : Gc LC w X own cc nL fr lo) {H : Heap} {x c : Int} (hP : Rp LC w M H) (h : hH w x c) {C : String} {T : u_T} {N : Nat} (hc : (lC LC)[c.toNat]? = some (C, T, N)) : ∃ cell : Cell, H[wa w (500 + x.toNat)]? = some cell ∧ cell.vm.isStatics = false ∧ (xs X).vm.findClass C = some cell.cls := by
  obtain ⟨r9, h1, cell, z1, z2, z3, -⟩ := rp_hold hP h
  have hr9 : r9 = (C, T, N) := Option.some.inj (h1.symm.trans hc)
  subst hr9
  exact ⟨cell, z1, by rw [z3]; rfl, by rw [z2]; exact (G.2.2.2.2.2.1.1 _ _ hc).2.1⟩
theorem vj_hgetf (G : Gc LC w X own cc nL fr lo) {x c : Int} (h : hH w x c) {C : String} {T : u_T} {N : Nat} (hc : (lC LC)[c.toNat]? = some (C, T, N)) (hin : ∀ q ∈ u_ws C T N, q ∈ ALL) {j idx : Nat} {ref : String} (hj : j < N) (hq : Cond.fieldLink own idx ref (T j).2.1 (T j).2.2.1 ∈ ALL) (hsame : ∀ z, (xs X).fieldFound? (T j).1 (T j).2.1 (T j).2.2.1 = some z → (xs X).fieldFound? ref (T j).2.1 (T j).2.2.1 = some z) {v : Value} (hv : ([.int (i32 x), .int (i32 (wF w x.toNat)), .ref (wa w 10)] : List Value)[j]? = some v) (hdg : decode cc pc = .ok (.getfield idx, 3)) (kk : VJ LC w X nL t r M1 M lv (v :: st) (pc + 3)) : VJ LC w X nL t r M1 M lv (.ref (wa w (500 + x.toNat)) :: st) pc := by
  intro H locs ls hP hS hl
  obtain ⟨r1, h1, cell, q1, q2, q3, q4⟩ := rp_hold hP h
  have hr : r1 = (C, T, N) := Option.some.inj (h1.symm.trans hc)
  subst hr
  obtain ⟨hSl, hfc, kC, hkC, hkind⟩ := G.2.2.2.2.2.1.1 _ _ hc
  obtain ⟨cf, kf, fi, f, hi, hsl⟩ := hSl j hj
  have hts := G.2.2.2.2.1
  refine W.getf G.1 G.2.1 G.2.2.2.1 (hts _ hq) (hsame _ hi) (u_facts hfc hkC (u_lays hts hin hj) hi).1 q1 (by rw [q3]; exact fun h => by cases h) (v := v) ?_ rfl rfl hdg (kk H locs ls hP hS hl)
  rw [hsl, q4 j hj]
  simp [vp_V, hv]
theorem same_of (G : Gc LC w X own cc nL fr lo) {C D n d : String} (q : Cond.sameField C D n d ∈ ALL) : ∀ z, (xs X).fieldFound? D n d = some z → (xs X).fieldFound? C n d = some z := fun z hz => u_same (G.2.2.2.2.1 _ q) z hz
/-- the words and the room of a call of an inherited or overriding method -/
theorem cu_of (G : Gc LC w X own cc nL fr lo) {x y : MethodName} {owner C : String} {code b0 : ByteArray} {maxL m0 f2 l2 idx n : Nat} {ret2 r0 : Option FieldType}
    (q1 : Cond.methodLink own idx x ∈ ALL) (q2 : Cond.sameMethod x.cls owner x.name x.desc ∈ ALL) (q3 : Cond.selects C x y ∈ ALL) (q4 : Cond.instanceMethod y ∈ ALL) (q5 : Cond.initialized y.cls ∈ ALL) (q6 : Cond.code y code maxL ret2 ∈ ALL) (q7 : Cond.instanceMethod ⟨owner, x.name, x.desc⟩ ∈ ALL) (q8 : Cond.code ⟨owner, x.name, x.desc⟩ b0 m0 r0 ∈ ALL)
    (hd : owner ≠ "java/lang/invoke/MethodHandle" ∧ owner ≠ "java/lang/invoke/VarHandle" ∧ (parseMethodDescriptor x.desc).map (fun d => d.parameters.length) = some n) (hf : f2 + 1 ≤ fr) (hlo : 8 + (maxL + 11) + l2 ≤ lo) :
    va_CU (xR X) (xs X) (xa X) own C owner idx x y code maxL ret2 (wsOf y code maxL ret2) { frames := f2, cells := 0, slots := 0, locals := l2 } 0 0 n := by
  refine va_cwO (ws' := ALL) (Ts := ALL) n G.2.2.2.2.1 ?_ rfl rfl rfl q8 hd (gx_rm G hf hlo)
  unfold va_wsO
  refine lt_all (fun c hc1 => ?_) q6
  simp only [List.mem_cons, List.not_mem_nil, or_false] at hc1
  rcases hc1 with rfl | rfl | rfl | rfl | rfl | rfl
  · exact q1
  · exact q2
  · exact q7
  · exact q3
  · exact q4
  · exact q5
theorem vj_callH (G : Gc LC w X own cc nL fr lo) {z c : Int} (h : hH w z c) {C : String} {T : u_T} {N : Nat} (hc : (lC LC)[c.toNat]? = some (C, T, N)) {x y : MethodName} {owner : String} {code : ByteArray} {maxL f2 l2 t1 idx n : Nat} {ret2 : Option FieldType} {As : List Value} {r1 : Int} {M2 : Mm}
    (hC : Ct LC w y code maxL ret2 f2 l2 t1 (.ref (wa w (500 + z.toNat)) :: As) M r1 M2) (cu : va_CU (xR X) (xs X) (xa X) own C owner idx x y code maxL ret2 (wsOf y code maxL ret2) { frames := f2, cells := 0, slots := 0, locals := l2 } 0 0 n) (hn : As.length = n)
    (hW : (st.map fun v => v.category).sum ≤ 8) (hdg : decode cc pc = .ok (.invokevirtual idx, 3)) (hst : st0 = As.reverse ++ .ref (wa w (500 + z.toNat)) :: st)
    (kk : oR t1 r1 → VJ LC w X nL t r M1 M2 lv ((oV t1 w r1).toList ++ st) (pc + 3)) : VJ LC w X nL t r M1 M lv st0 pc := by
  refine vj_behind G (t1 := t1) (r1 := r1) (M2 := M2) (aa := (Value.ref (wa w (500 + z.toNat)) :: As).toArray) (fun H locs ls hP hS hl => ?_) kk
  subst hst
  exact va_runU (As := As) (rest := st) ⟨G.1, G.2.1, G.2.2.1, G.2.2.2.1, G.2.2.2.2.1⟩ (hC (xl X)) cu ⟨bx_blind G.2.2.2.2.2.2.2.2.2.2.1 _, hold_recv G hP h hc, bx_at G hP hS _⟩ rfl hn hl.1 rfl (lv_room hW) hdg ⟨G.2.2.2.2.2.2.2.2.1.2.2.1, G.2.2.2.2.2.2.2.2.1.2.2.2⟩
/-- a virtual call of a method that the object's own class declares, named there -/
theorem vj_callHV (G : Gc LC w X own cc nL fr lo) {z c : Int} (h : hH w z c) {C : String} {T : u_T} {N : Nat} (hc : (lC LC)[c.toNat]? = some (C, T, N)) {y : MethodName} {code : ByteArray} {maxL f2 l2 t1 idx n : Nat} {ret2 : Option FieldType} {As : List Value} {r1 : Int} {M2 : Mm}
    (hC : Ct LC w y code maxL ret2 f2 l2 t1 (.ref (wa w (500 + z.toNat)) :: As) M r1 M2) (hy : y.cls = C) (q1 : Cond.methodLink own idx y ∈ ALL) (cq : cqV y code maxL ret2 n) (hn : As.length = n)
    (hf : f2 + 1 ≤ fr) (hlo : 8 + (maxL + 11) + l2 ≤ lo) (hW : (st.map fun v => v.category).sum ≤ 8) (hdg : decode cc pc = .ok (.invokevirtual idx, 3)) (hst : st0 = As.reverse ++ .ref (wa w (500 + z.toNat)) :: st)
    (kk : oR t1 r1 → VJ LC w X nL t r M1 M2 lv ((oV t1 w r1).toList ++ st) (pc + 3)) : VJ LC w X nL t r M1 M lv st0 pc := by
  refine vj_behind G (t1 := t1) (r1 := r1) (M2 := M2) (aa := (Value.ref (wa w (500 + z.toNat)) :: As).toArray) (fun H locs ls hP hS hl => ?_) kk
  subst hst
  have hcw := cwV (R := xR X) (s := xs X) (args := xa X) (Ts := ALL) (own := own) (index := idx) (C := C) (y := y) (bytes := code) (maxL := maxL) (ret := ret2) (ws := wsOf y code maxL ret2) (ws' := ALL) (rm := { frames := f2, cells := 0, slots := 0, locals := l2 }) (mc := 0) (ms := 0) n G.2.2.2.2.1 (by
      unfold wsV
      refine lt_all (fun c hc1 => ?_) cq.2.2.2.1
      simp only [List.mem_cons, List.not_mem_nil, or_false] at hc1
      rcases hc1 with rfl | rfl | rfl | rfl
      · exact q1
      · exact cq.1
      · rw [← hy]; exact cq.2.1
      · rw [← hy]; exact cq.2.2.1) rfl rfl rfl ⟨hy, cq.2.2.2.2⟩ (gx_rm G hf hlo)
  exact va_runV (As := As) (rest := st) ⟨G.1, G.2.1, G.2.2.1, G.2.2.2.1, G.2.2.2.2.1⟩ (hC (xl X)) hcw ⟨bx_blind G.2.2.2.2.2.2.2.2.2.2.1 _, hold_recv G hP h hc, bx_at G hP hS _⟩ rfl hn hl.1 rfl (lv_room hW) hdg ⟨G.2.2.2.2.2.2.2.2.1.2.2.1, G.2.2.2.2.2.2.2.2.1.2.2.2⟩
/-- super.m(..): m as the superclass has it, its own or from above -/
theorem vj_callHS (G : Gc LC w X own cc nL fr lo) {z c : Int} (h : hH w z c) {C : String} {T : u_T} {N : Nat} (hc : (lC LC)[c.toNat]? = some (C, T, N)) {x y : MethodName} {owner : String} {code : ByteArray} {maxL f2 l2 t1 idx n : Nat} {ret2 : Option FieldType} {As : List Value} {r1 : Int} {M2 : Mm}
    (hC : Ct LC w y code maxL ret2 f2 l2 t1 (.ref (wa w (500 + z.toNat)) :: As) M r1 M2) (hyx : y = ⟨owner, x.name, x.desc⟩) (hyo : y.cls = owner)
    (q1 : Cond.methodLink own idx x ∈ ALL) (q2 : Cond.sameMethod x.cls owner x.name x.desc ∈ ALL) (q3 : Cond.superclass own x.cls ∈ ALL) (q4 : Cond.instanceMethod y ∈ ALL) (q5 : Cond.initialized y.cls ∈ ALL) (q6 : Cond.code y code maxL ret2 ∈ ALL) (q7 : x.cls = owner ∨ Cond.superclass x.cls owner ∈ ALL)
    (hno : x.name ≠ "<init>") (hd : (parseMethodDescriptor y.desc).map (fun d => d.parameters.length) = some n) (hn : As.length = n) (hf : f2 + 1 ≤ fr) (hlo : 8 + (maxL + 11) + l2 ≤ lo)
    (hW : (st.map fun v => v.category).sum ≤ 8) (hdg : decode cc pc = .ok (.invokespecial idx, 3)) (hst : st0 = As.reverse ++ .ref (wa w (500 + z.toNat)) :: st)
    (kk : oR t1 r1 → VJ LC w X nL t r M1 M2 lv ((oV t1 w r1).toList ++ st) (pc + 3)) : VJ LC w X nL t r M1 M lv st0 pc := by
  refine vj_behind G (t1 := t1) (r1 := r1) (M2 := M2) (aa := (Value.ref (wa w (500 + z.toNat)) :: As).toArray) (fun H locs ls hP hS hl => ?_) kk
  subst hst
  have hts := G.2.2.2.2.1
  have hws : ∀ w ∈ wsOf y code maxL ret2, ∀ (a' : Array Value) (U : State), (xs X).WarmedH U.vm → w.before a' U = true := pay_in hts (by
    have h1 := lt_all (m1 := []) (y := y) (code := code) (maxL := maxL) (ret := ret2) (fun c h => absurd h List.not_mem_nil) q6
    exact h1)
  have hrm := gx_rm G hf hlo
  have hK := back_of (l := xl X) (p := xp X) (e := xe X) (below := xb X) (s := xs X) (sargs := xa X) (R := xR X) (len := 3) (W := 8) (bytes := code) (maxL := maxL) (ret := ret2) (hC (xl X)) (bx_blind G.2.2.2.2.2.2.2.2.2.2.1 _) rfl rfl hrm.1 hrm.2 hws List.mem_cons_self (fun a' U hW => word_at hW (Or.inl (by first | rfl | simp [Cond.onTables, Cond.keeps, Cond.steady])) (hts _ q5))
  obtain ⟨mk, methM, hnamed, hmethM, hstM, habM⟩ := Cond.instanceMethod_spec (hts _ q4)
  obtain ⟨methM', cM, hmethM', -, -, -, -, -, -, hsigM⟩ := Cond.code_spec hnamed (hts _ q6)
  cases hmethM.symm.trans hmethM'
  obtain ⟨ps, dk, kp, hps, hdk, hkp, hsuper, -, -, hnid⟩ := Cond.superclass_spec G.2.2.2.1 (hts _ q3)
  have hn2 : (xs X).methodNamed? ⟨owner, x.name, x.desc⟩ = some mk := by rw [← hyx]; exact hnamed
  have hmk : (xs X).vm.findClass owner = some mk.cls := by rw [← hyo]; exact findClass_of_methodNamed hnamed
  have hsub : (xs X).vm.isSubclass ps mk.cls = true := by
    rcases q7 with q7 | q7
    · rw [q7] at hps
      have hpm : ps = mk.cls := Option.some.inj (hps.symm.trans hmk)
      rw [hpm]; simp [Vm.isSubclass, Vm.isSubclassAux]
    · obtain ⟨pp, k2, kp2, g1, g2, g3, g4, -⟩ := Cond.superclass_spec hps (hts _ q7)
      have hpm : pp = mk.cls := Option.some.inj (g1.symm.trans hmk)
      have hlt : 0 < (xs X).vm.classes.size := by
        have := (Array.getElem?_eq_some_iff.mp g2).1
        omega
      unfold Vm.isSubclass Vm.isSubclassAux
      rw [g2]
      simp only [g4, Bool.or_eq_true]
      refine Or.inr ?_
      obtain ⟨z9, hz9⟩ : ∃ z9, (xs X).vm.classes.size = z9 + 1 := ⟨_, (Nat.succ_pred_eq_of_pos hlt).symm⟩
      rw [hz9, hpm]
      simp [Vm.isSubclassAux]
  obtain ⟨cellB, hcB, hoB, hclB⟩ := hold_recv G hP h hc
  obtain ⟨hfc, kB, hkB, -⟩ := (G.2.2.2.2.2.1.1 _ _ hc).2
  have hcl := Option.some.inj (hfc.symm.trans hclB)
  have hkB2 : (xs X).vm.classes[cellB.cls]? = some kB := by rw [← hcl]; exact hkB
  intro T hT Y
  have hlen : As.length = methM.sig.parameters.length := by
    rw [hsigM] at hd
    exact hn.trans (Option.some.inj hd).symm
  obtain ⟨vm₁, Y₁, hstep₁⟩ := Y.invokespecialUp G.1 G.2.2.2.1 (hts _ q1) (hts _ q2) hn2 hmethM hstM habM hno hdk hnid hps hsuper hsub (a := wa w (500 + z.toNat)) (cell := cellB) (by rw [hT]; exact hcB)
    (fun z h => by rw [h] at hoB; cases hoB) hkB2 (g := F0 (xm X) pc ls (As.reverse ++ .ref (wa w (500 + z.toNat)) :: st)) rfl (argsL := As) (rest := st) hlen rfl (by rw [G.2.1]; exact hdg)
  obtain ⟨v, B, Y', hpost, hsteps⟩ := hK (xm X) (xM X) (xc X) ⟨T.setVm vm₁, locs, xcn X, xsn X⟩ { F0 (xm X) pc ls (As.reverse ++ .ref (wa w (500 + z.toNat)) :: st) with stack := st } (.invokespecial idx) mk (Value.ref (wa w (500 + z.toNat)) :: As).toArray Y₁ rfl (by rw [G.2.2.1]; exact hl.1) (by rw [G.2.1]; exact hdg) (lv_room hW) (Y₁.named hnamed) ⟨G.2.2.2.2.2.2.2.2.1.2.2.1, G.2.2.2.2.2.2.2.2.1.2.2.2, bx_at G hP hS (.ref (wa w (500 + z.toNat)) :: As) (T.setVm vm₁) hT Y₁.warmed⟩
  obtain ⟨U', l2', c2, s2⟩ := B
  obtain ⟨g', mk', t', Ls, e1, e2, hq, h1, hL, h2, h3⟩ := hpost
  dsimp only [Pt.U, Pt.locs, Pt.cells, Pt.slots] at Y' e1 e2 h1 h2 h3 hsteps
  subst h1; subst h2; subst h3
  exact ⟨v, (T.setVm vm₁).calling g' mk' (Value.ref (wa w (500 + z.toNat)) :: As).toArray, t', U', Ls, hT, Y', hL, e1, e2, hq, fun target hh => hstep₁ target (by rw [doInvoke_state]; exact hsteps.trans hh)⟩
theorem vj_instY (G : Gc LC w X own cc nL fr lo) {z c : Int} (h : hH w z c) {C0 : String} {T : u_T} {N : Nat} (hc : (lC LC)[c.toNat]? = some (C0, T, N)) {idx : Nat} {nm : String} (hq : Cond.classLink own idx nm ∈ ALL) (hm : (C0, nm) ∈ castP) (hdg : decode cc pc = .ok (.instanceof idx, 3)) (kk : VJ LC w X nL t r M1 M lv (.int (i32 1) :: st) (pc + 3)) : VJ LC w X nL t r M1 M lv (.ref (wa w (500 + z.toNat)) :: st) pc := by
  intro H locs ls hP hS hl
  exact va_instY G.1 G.2.1 G.2.2.2.1 (G.2.2.2.2.1 _ hq) ((G.2.2.2.2.2.2.1 : KXC w (xs X)).2.2.2.2.2.1 _ hm) (hold_recv G hP h hc) hdg (kk H locs ls hP hS hl)
theorem vj_instN (G : Gc LC w X own cc nL fr lo) {z c : Int} (h : hH w z c) {C0 : String} {T : u_T} {N : Nat} (hc : (lC LC)[c.toNat]? = some (C0, T, N)) {idx : Nat} {nm : String} (hq : Cond.classLink own idx nm ∈ ALL) (hm : (C0, nm) ∈ castN) (hdg : decode cc pc = .ok (.instanceof idx, 3)) (kk : VJ LC w X nL t r M1 M lv (.int (i32 0) :: st) (pc + 3)) : VJ LC w X nL t r M1 M lv (.ref (wa w (500 + z.toNat)) :: st) pc := by
  intro H locs ls hP hS hl
  exact va_instNo G.1 G.2.1 G.2.2.2.1 (G.2.2.2.2.1 _ hq) ((G.2.2.2.2.2.2.1 : KXC w (xs X)).2.2.2.2.2.2 _ hm) (hold_recv G hP h hc) hdg (kk H locs ls hP hS hl)
theorem vj_instS (G : Gc LC w X own cc nL fr lo) {z c : Int} (h : hH w z c) {C0 : String} {T : u_T} {N : Nat} (hc : (lC LC)[c.toNat]? = some (C0, T, N)) {idx : Nat} (hq : Cond.classLink own idx C0 ∈ ALL) (hdg : decode cc pc = .ok (.instanceof idx, 3)) (kk : VJ LC w X nL t r M1 M lv (.int (i32 1) :: st) (pc + 3)) : VJ LC w X nL t r M1 M lv (.ref (wa w (500 + z.toNat)) :: st) pc := by
  intro H locs ls hP hS hl
  exact va_instS G.1 G.2.1 G.2.2.2.1 (G.2.2.2.2.1 _ hq) (G.2.2.2.2.2.1.1 _ _ hc).2 (hold_recv G hP h hc) hdg (kk H locs ls hP hS hl)
end HOLD
