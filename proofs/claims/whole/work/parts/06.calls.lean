/-! Calls by contract; switches. -/
section CALLS
variable {L : Lay} {w : Wd} {X : Cx} {own : String} {cc : ByteArray} {nL fr lo : Nat} {t : Nat} {r : Int} {M1 M : Mm} {lv : List (Nat × Value)} {st st0 : List Value} {pc : Nat}
theorem bx_blind (hK : Kst L) (As : List Value) : FrameBlind (va_Pc As (Bx L w M)) := by
  intro a U g mk q
  obtain ⟨h1, h2, h3, h4⟩ := q
  exact ⟨h1, h2, va_K.moved (u := U) (U := U.calling g mk a) (Vm.Alike.refl U.vm) h3, hK w U _ h4 (fun _ _ _ => rfl) (Or.inr rfl)⟩
theorem bx_at (G : Gc L w X own cc nL fr lo) {H : Heap} {locs : List Loc} (hP : Rp L w M H) (hS : va_S (xA X) (xs X).heap H locs) (As : List Value) : ∀ U : State, U.heap = H → (xs X).WarmedH U.vm → va_Pc As (Bx L w M) As.toArray U :=
  fun U hU hW => ⟨rfl, by rw [hU]; exact hP, va_K.moved hW.alike G.2.2.2.2.2.1, G.2.2.2.2.2.2.2.2.2.2.1 w (xs X) U G.2.2.2.2.2.2.1 (fun a h1 h2 => by rw [hU]; exact hS.2.1 a h1 (fun q => h2 (G.2.2.2.2.2.2.2.2.1.2.1 a h1 q))) (Or.inl hW)⟩
/-- behind a call: the callee's memory -/
theorem vj_behind (G : Gc L w X own cc nL fr lo) {t1 : Nat} {r1 : Int} {M2 : Mm} {aa : Array Value} (hr : ∀ (H : Heap) (locs : List Loc) (ls : Array Slot), Rp L w M H → va_S (xA X) (xs X).heap H locs → lv_has ls nL lv → va_Run (xp X) (xl X) (xe X) (xR X) (xs X) (xm X) (xa X) (xb X) (xM X) (xc X) H locs (xcn X) (xsn X) 0 0 (F0 (xm X) pc ls st0) st (Qx L w t1 r1 M2 aa) (Aw L w))
    (kk : oR t1 r1 → VJ L w X nL t r M1 M2 lv ((oV t1 w r1).toList ++ st) (pc + 3)) : VJ L w X nL t r M1 M lv st0 pc := by
  intro H locs ls hP hS hl T hT Y
  obtain ⟨v, st₀, u, T', Ls, h0, Y', hL, e1, e2, ⟨hv, hR, hP2, hF⟩, stp⟩ := hr H locs ls hP hS hl T hT Y
  cases hv
  have hS2 : va_S (xA X) (xs X).heap T'.heap (locs ++ Ls) := by
    refine ⟨?_, fun q h1 h2 => ?_, fun q hq => ?_⟩
    · rw [e1]; exact Nat.le_trans hS.1 (by rw [← h0]; exact hF.1)
    · rw [e1, hF.2 q (by rw [h0]; exact Nat.lt_of_lt_of_le h1 hS.1) (fun z => h2 (G.2.2.2.2.2.2.2.2.1.1 q z)), h0]
      exact hS.2.1 q h1 h2
    · rcases List.mem_append.mp hq with h | h
      · exact hS.2.2 q h
      · exact G.2.2.2.2.2.2.2.2.1.1 _ (hL q h)
  obtain ⟨t2, a1, b1⟩ := kk hR T'.heap (locs ++ Ls) ls (by rw [e1]; exact hP2) hS2 hl T' rfl Y'
  exact ⟨t2, stp t2 a1, b1⟩
theorem gx_rm (G : Gc L w X own cc nL fr lo) {f2 l2 m2 : Nat} (h1 : f2 + 1 ≤ fr) (h2 : 8 + (m2 + 11) + l2 ≤ lo) : ({ frames := f2, cells := 0, slots := 0, locals := l2 } : Room).frames + 1 ≤ (xR X).frames ∧ 8 + (m2 + 11) + ({ frames := f2, cells := 0, slots := 0, locals := l2 } : Room).locals ≤ (xR X).locals :=
  ⟨Nat.le_trans h1 G.2.2.2.2.2.2.2.2.2.2.2.1, Nat.le_trans h2 G.2.2.2.2.2.2.2.2.2.2.2.2⟩
/-- a virtual call of a method of the object's own class -/
theorem vj_callV (G : Gc L w X own cc nL fr lo) {y : MethodName} {code : ByteArray} {maxL : Nat} {ret2 : Option FieldType} {f2 l2 t1 idx k ci : Nat} {As : List Value} {r1 : Int} {M2 : Mm} {C : String} {T : u_T} {N n : Nat}
    (hC : Ct L w y code maxL ret2 f2 l2 t1 (.ref (wa w k) :: As) M r1 M2) (hk : lk L k = (4, ci, 0)) (hc : (lC L)[ci]? = some (C, T, N)) (hy : y.cls = C)
    (q1 : Cond.methodLink own idx y ∈ ALL) (q2 : Cond.instanceMethod y ∈ ALL) (q3 : Cond.selects C y y ∈ ALL) (q4 : Cond.initialized C ∈ ALL) (q5 : Cond.code y code maxL ret2 ∈ ALL)
    (hd : y.cls ≠ "java/lang/invoke/MethodHandle" ∧ y.cls ≠ "java/lang/invoke/VarHandle" ∧ (parseMethodDescriptor y.desc).map (fun d => d.parameters.length) = some n) (hn : As.length = n)
    (hf : f2 + 1 ≤ fr) (hlo : 8 + (maxL + 11) + l2 ≤ lo) (hW : (st.map fun v => v.category).sum ≤ 8) (hdg : decode cc pc = .ok (.invokevirtual idx, 3)) (hst : st0 = As.reverse ++ .ref (wa w k) :: st)
    (kk : oR t1 r1 → VJ L w X nL t r M1 M2 lv ((oV t1 w r1).toList ++ st) (pc + 3)) : VJ L w X nL t r M1 M lv st0 pc := by
  refine vj_behind G (t1 := t1) (r1 := r1) (M2 := M2) (aa := (Value.ref (wa w k) :: As).toArray) (fun H locs ls hP hS hl => ?_) kk
  subst hst
  have hcw := cwV (R := xR X) (s := xs X) (args := xa X) (Ts := ALL) (own := own) (index := idx) (C := C) (y := y) (bytes := code) (maxL := maxL) (ret := ret2) (ws := wsOf y code maxL ret2) (ws' := ALL) (rm := { frames := f2, cells := 0, slots := 0, locals := l2 }) (mc := 0) (ms := 0) n G.2.2.2.2.1 (by
      unfold wsV
      refine lt_all (fun c hc1 => ?_) q5
      simp only [List.mem_cons, List.not_mem_nil, or_false] at hc1
      rcases hc1 with rfl | rfl | rfl | rfl
      · exact q1
      · exact q2
      · exact q3
      · exact q4) rfl rfl rfl ⟨hy, hd⟩ (gx_rm G hf hlo)
  refine va_runV (As := As) (rest := st) ⟨G.1, G.2.1, G.2.2.1, G.2.2.2.1, G.2.2.2.2.1⟩ (hC (xl X)) hcw ⟨bx_blind G.2.2.2.2.2.2.2.2.2.2.1 _, ?_, bx_at G hP hS _⟩ rfl hn hl.1 rfl (lv_room hW) hdg ⟨G.2.2.2.2.2.2.2.2.1.2.2.1, G.2.2.2.2.2.2.2.2.1.2.2.2⟩
  obtain ⟨r9, h1, cell, z1, z2, z3, -⟩ := rp_obj hP hk
  have hr9 : r9 = (C, T, N) := Option.some.inj (h1.symm.trans hc)
  subst hr9
  exact ⟨cell, z1, by rw [z3]; rfl, by rw [z2]; exact (G.2.2.2.2.2.1.1 ci _ hc).2.1⟩
/-- a static call -/
theorem vj_callS (G : Gc L w X own cc nL fr lo) {y : MethodName} {code : ByteArray} {maxL : Nat} {ret2 : Option FieldType} {f2 l2 t1 idx : Nat} {As : List Value} {r1 : Int} {M2 : Mm} {n : Nat}
    (hC : Ct L w y code maxL ret2 f2 l2 t1 As M r1 M2)
    (q1 : Cond.methodLink own idx y ∈ ALL) (q2 : Cond.static y ∈ ALL) (q4 : Cond.initialized y.cls ∈ ALL) (q5 : Cond.code y code maxL ret2 ∈ ALL)
    (hd : y.cls ≠ "java/lang/invoke/MethodHandle" ∧ y.cls ≠ "java/lang/invoke/VarHandle" ∧ (parseMethodDescriptor y.desc).map (fun d => d.parameters.length) = some n) (hn : As.length = n)
    (hf : f2 + 1 ≤ fr) (hlo : 8 + (maxL + 11) + l2 ≤ lo) (hW : (st.map fun v => v.category).sum ≤ 8) (hdg : decode cc pc = .ok (.invokestatic idx, 3)) (hst : st0 = As.reverse ++ st)
    (kk : oR t1 r1 → VJ L w X nL t r M1 M2 lv ((oV t1 w r1).toList ++ st) (pc + 3)) : VJ L w X nL t r M1 M lv st0 pc := by
  refine vj_behind G (t1 := t1) (r1 := r1) (M2 := M2) (aa := As.toArray) (fun H locs ls hP hS hl => ?_) kk
  subst hst
  have hG : GoodIn ALL (wsOf y code maxL ret2) := lt_all (m1 := []) (fun c h => absurd h List.not_mem_nil) q5
  have hcb : CallB (xR X) (xs X) (xa X) own idx y code maxL ret2 (wsOf y code maxL ret2) { frames := f2, cells := 0, slots := 0, locals := l2 } 0 0 n :=
    callB_of (ws' := ALL) n G.2.2.2.2.1 hG rfl rfl rfl (G.2.2.2.2.1 _ q4) (G.2.2.2.2.1 _ q1) hd (gx_rm G hf hlo)
  exact va_runS (As := As) (rest := st) ⟨G.1, G.2.1, G.2.2.1, G.2.2.2.1, G.2.2.2.2.1⟩ (hC (xl X)) ⟨hcb, G.2.2.2.2.1 _ q2⟩ ⟨bx_blind G.2.2.2.2.2.2.2.2.2.2.1 _, bx_at G hP hS _⟩ rfl hn hl.1 rfl (lv_room hW) hdg ⟨G.2.2.2.2.2.2.2.2.1.2.2.1, G.2.2.2.2.2.2.2.2.1.2.2.2⟩
theorem vj_swOut (G : Gc L w X own cc nL fr lo) {dflt l9 h9 : Int} {offs : Array Int} {len : Nat} {x : Int} {tgt : Nat} (hdg : decode cc pc = .ok (.tableswitch dflt l9 h9 offs, len)) (hx : inR x) (h : x < l9 ∨ h9 < x) (ht : (pc : Int) + dflt = (tgt : Int)) (k : VJ L w X nL t r M1 M lv st tgt) : VJ L w X nL t r M1 M lv (.int (i32 x) :: st) pc := by
  intro H locs ls hP hS hl
  exact lv_tableOut G.1 G.2.1 hdg (by rw [t_i32 hx]; exact h) ht (k H locs ls hP hS hl)
theorem vj_swIn (G : Gc L w X own cc nL fr lo) {dflt l9 h9 : Int} {offs : Array Int} {len : Nat} {x y off : Int} {tgt : Nat} (hdg : decode cc pc = .ok (.tableswitch dflt l9 h9 offs, len)) (hx : inR x) (e : x = y) (h1 : l9 ≤ y) (h2 : y ≤ h9) (ho : offs[(y - l9).toNat]? = some off) (ht : (pc : Int) + off = (tgt : Int)) (k : VJ L w X nL t r M1 M lv st tgt) : VJ L w X nL t r M1 M lv (.int (i32 x) :: st) pc := by
  intro H locs ls hP hS hl
  subst e
  exact lv_tableIn G.1 G.2.1 hdg (by rw [t_i32 hx]; omega) (by rw [t_i32 hx]; omega) (by rw [t_i32 hx]; exact ho) ht (k H locs ls hP hS hl)
theorem vj_lsw (G : Gc L w X own cc nL fr lo) {dflt : Int} {ps : Array (Int × Int)} {len : Nat} {x off : Int} {tgt : Nat} (hdg : decode cc pc = .ok (.lookupswitch dflt ps, len)) (hx : inR x) (hp : (ps.toList.zip (ps.toList.drop 1)).all (fun (a, next) => a.1 < next.1) = true) (ho : Op.lookupswitch.offset ps.toList dflt x = off) (ht : (pc : Int) + off = (tgt : Int)) (k : VJ L w X nL t r M1 M lv st tgt) : VJ L w X nL t r M1 M lv (.int (i32 x) :: st) pc := by
  intro H locs ls hP hS hl
  exact lv_lookup G.1 G.2.1 hdg hp (by rw [t_i32 hx]; exact ho) ht (k H locs ls hP hS hl)
theorem vj_aret (G0 : Gx L w X own cc nL fr lo (some (.object "java/lang/String"))) {v : Int} (hv : 0 ≤ v ∧ v < 7) (hdg : decode cc pc = .ok (.areturn, 1)) : VJ L w X nL 4 v M M lv [.ref (ws9 w v.toNat)] pc := by
  intro H locs ls hP hS hl
  have G := G0.1
  have hA := G0.2.2.1
  rw [hA] at hS
  rw [show xQ X = _ from G0.2.2.2]
  rw [hA]
  exact W.aret (v := .ref (ws9 w v.toNat)) G.1 G.2.1 G0.2.1 (Or.inl ⟨_, rfl⟩) (Or.inr ⟨_, rfl⟩) (Ct.end (t := 4) rfl hv hP hS) hS.2.2 hdg G.2.2.2.2.2.2.2.1
end CALLS
