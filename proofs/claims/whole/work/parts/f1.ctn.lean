/-! Constructors: contracts that make cells; their calls. -/
/-- the contract of a method that makes cells: from the layout L it comes to L', making cl cells of sl slots -/
def Ctn (L L' : Lay) (w : Wd) (y : MethodName) (code : ByteArray) (maxL : Nat) (ret : Option FieldType) (fr cl sl lo t : Nat) (As : List Value) (M : Mm) (r : Int) (M1 : Mm) : Prop :=
  ∀ l : Launch, Met l y (wsOf y code maxL ret) { frames := fr, cells := cl, slots := sl, locals := lo } (va_Pc As (Bx L w M)) (Qx L' w t r M1) cl sl (Aw L' w)
/-- the walk of a constructor, at its begin -/
def Gn (L L' : Lay) (w : Wd) (X : Cx) (own : String) (cc : ByteArray) (nL fr cl sl lo : Nat) (ret : Option FieldType) (nm : String) : Prop :=
  Gc L w X own cc nL fr lo ∧ (xM X).sig.returnType = ret ∧ xA X = Aw L' w ∧ xcn X = 0 ∧ xsn X = 0 ∧ (xR X).cells = cl ∧ (xR X).slots = sl ∧ xQ X = (fun t r M1 => MQ (xb X) (Qx L' w t r M1) (xa X) (xs X) cl sl (xA X)) ∧ (xM X).name = nm
theorem Ctn.of {L L' : Lay} {w : Wd} {y : MethodName} {code : ByteArray} {maxL fr cl sl lo t : Nat} {ret : Option FieldType} {As : List Value} {M M1 : Mm} {r : Int} (hij : ij L w) (hK : Kst L) (hsub : ∀ k, pr L w k → pr L' w k) (hnew : ∀ k, pr L' w k → pr L w k ∨ ∀ n, lz L w n → n ≤ wa w k) (hy : plainName y.cls = true) (hlen : (lg_sl As).length ≤ maxL)
    (body : ∀ X : Cx, Gn L L' w X y.cls code maxL fr cl sl lo ret y.name → VJ L w X maxL t r M1 M (lv_args 0 As) [] 0) : Ctn L L' w y code maxL ret fr cl sl lo t As M r M1 := by
  intro l
  refine Met.ofW (cc := code) (maxL := maxL) (ret := ret) hy rfl ?_
  intro p e s m args below meth c s₁ B hml hv
  obtain ⟨rfl, hP, hKs, hXs⟩ := hv
  have hts := atoms_spec (ws := wsOf y code maxL ret) B.pre
  have hl := lv_entry As (n := maxL) hlen
  rw [lg_entry_eq]
  exact body ((p, l, e, _), (s, m, As.toArray, below), (meth, c, 0, 0, Aw L' w, fun t r M1 => MQ below (Qx L' w t r M1) As.toArray s cl sl (Aw L' w))) ⟨⟨B.exec, B.bytes, hml, findClass_of_methodNamed B.named, fun c hc => hts c (List.mem_cons_of_mem _ hc), hKs, hXs, B.notSynchronized, ⟨fun q h => by obtain ⟨k, h1, h2⟩ := h; exact ⟨k, hsub k h1, h2⟩, fun q hq h => by
    obtain ⟨k, h1, h2⟩ := h
    rcases hnew k h1 with h3 | h3
    · exact ⟨k, h3, h2⟩
    · have := h3 _ hP.2.2.2.2.2
      rw [h2] at hq
      exact absurd hq (Nat.not_lt.mpr this), Nat.zero_le _, Nat.zero_le _⟩, hij, hK, Nat.le_refl _, Nat.le_refl _⟩, B.returns, rfl, rfl, rfl, rfl, rfl, rfl, (name_of_methodNamed B.named B.method).1⟩ s.heap [] _ hP va_S.rf hl
section CTN
variable {L L2 : Lay} {w : Wd} {X : Cx} {own : String} {cc : ByteArray} {nL fr lo : Nat} {t : Nat} {r : Int} {M1 M : Mm} {lv : List (Nat × Value)} {st st0 : List Value} {pc : Nat}
/-- behind a constructor's call -/
theorem vj_behindN {mc ms t1 : Nat} {r1 : Int} (hA : ∀ q, Aw L2 w q → xA X q) {M2 : Mm} {aa : Array Value} (hr : ∀ (H : Heap) (locs : List Loc) (ls : Array Slot), Rp L w M H → va_S (xA X) (xs X).heap H locs → lv_has ls nL lv → va_Run (xp X) (xl X) (xe X) (xR X) (xs X) (xm X) (xa X) (xb X) (xM X) (xc X) H locs (xcn X) (xsn X) mc ms (F0 (xm X) pc ls st0) st (Qx L2 w t1 r1 M2 aa) (Aw L2 w))
    (kk : oR t1 r1 → VJ L2 w (xInc X mc ms) nL t r M1 M2 lv ((oV t1 w r1).toList ++ st) (pc + 3)) : VJ L w X nL t r M1 M lv st0 pc := by
  intro H locs ls hP hS hl T hT Y
  obtain ⟨v, st₀, u, T', Ls, h0, Y', hL, e1, e2, ⟨hv, hR, hP2, hF⟩, stp⟩ := hr H locs ls hP hS hl T hT Y
  cases hv
  have hS2 : va_S (xA X) (xs X).heap T'.heap (locs ++ Ls) := by
    refine ⟨?_, fun q h1 h2 => ?_, fun q hq => ?_⟩
    · rw [e1]; exact Nat.le_trans hS.1 (by rw [← h0]; exact hF.1)
    · rw [e1, hF.2 q (by rw [h0]; exact Nat.lt_of_lt_of_le h1 hS.1) (fun z => h2 (hA q z)), h0]
      exact hS.2.1 q h1 h2
    · rcases List.mem_append.mp hq with h | h
      · exact hS.2.2 q h
      · exact hA _ (hL q h)
  obtain ⟨t2, a1, b1⟩ := kk hR T'.heap (locs ++ Ls) ls (by rw [e1]; exact hP2) hS2 hl T' rfl Y'
  exact ⟨t2, stp t2 a1, b1⟩
/-- a constructor's call -/
theorem vj_callI (G : Gc L w X own cc nL fr lo) {y : MethodName} {code : ByteArray} {maxL f2 cl sl l2 idx b n : Nat} {As : List Value} {M2 : Mm}
    (hC : Ctn L L2 w y code maxL none f2 cl sl l2 0 (.ref b :: As) M 0 M2) (hA : ∀ q, Aw L2 w q → xA X q)
    (q1 : Cond.methodLink own idx y ∈ ALL) (q2 : Cond.instanceMethod y ∈ ALL) (q4 : Cond.initialized y.cls ∈ ALL) (q5 : Cond.code y code maxL none ∈ ALL) (hi : y.name = "<init>")
    (hd : y.cls ≠ "java/lang/invoke/MethodHandle" ∧ y.cls ≠ "java/lang/invoke/VarHandle" ∧ (parseMethodDescriptor y.desc).map (fun d => d.parameters.length) = some n) (hn : As.length = n)
    (hf : f2 + 1 ≤ fr) (hlo : 8 + (maxL + 11) + l2 ≤ lo) (hc : xcn X + cl ≤ (xR X).cells) (hs : xsn X + sl ≤ (xR X).slots) (hW : (st.map fun v => v.category).sum ≤ 8) (hdg : decode cc pc = .ok (.invokespecial idx, 3)) (hst : st0 = As.reverse ++ .ref b :: st)
    (kk : VJ L2 w (xInc X cl sl) nL t r M1 M2 lv st (pc + 3)) : VJ L w X nL t r M1 M lv st0 pc := by
  refine vj_behindN hA (mc := cl) (ms := sl) (M2 := M2) (t1 := 0) (r1 := 0) (aa := (Value.ref b :: As).toArray) (fun H locs ls hP hS hl => ?_) (fun _ => kk)
  subst hst
  have hG : GoodIn ALL (wsOf y code maxL none) := lt_all (m1 := []) (fun c h => absurd h List.not_mem_nil) q5
  have hts := G.2.2.2.2.1
  have hcw := cwI (R := xR X) (s := xs X) (args := xa X) (Ts := ALL) (own := own) (index := idx) (y := y) (bytes := code) (maxL := maxL) (ws := wsOf y code maxL none) (rm := { frames := f2, cells := cl, slots := sl, locals := l2 }) (mc := cl) (ms := sl) n G.2.2.2.2.1 hG rfl rfl rfl (hts _ q4) (hts _ q1) (hts _ q2) hi hd ⟨Nat.le_trans hf G.2.2.2.2.2.2.2.2.2.2.2.1, Nat.le_trans hlo G.2.2.2.2.2.2.2.2.2.2.2.2⟩
  exact va_runI (As := As) (rest := st) ⟨G.1, G.2.1, G.2.2.1, G.2.2.2.1, G.2.2.2.2.1⟩ (hC (xl X)) hcw ⟨bx_blind G.2.2.2.2.2.2.2.2.2.2.1 _, bx_at G hP hS _⟩ rfl hn hl.1 rfl (lv_room hW) hdg ⟨hc, hs⟩
/-- a static call of a method that makes cells -/
theorem vj_callSn (G : Gc L w X own cc nL fr lo) {y : MethodName} {code : ByteArray} {maxL f2 cl sl l2 idx n t1 : Nat} {ret2 : Option FieldType} {As : List Value} {r1 : Int} {M2 : Mm}
    (hC : Ctn L L2 w y code maxL ret2 f2 cl sl l2 t1 As M r1 M2) (hA : ∀ q, Aw L2 w q → xA X q)
    (q1 : Cond.methodLink own idx y ∈ ALL) (q2 : Cond.static y ∈ ALL) (q4 : Cond.initialized y.cls ∈ ALL) (q5 : Cond.code y code maxL ret2 ∈ ALL)
    (hd : y.cls ≠ "java/lang/invoke/MethodHandle" ∧ y.cls ≠ "java/lang/invoke/VarHandle" ∧ (parseMethodDescriptor y.desc).map (fun d => d.parameters.length) = some n) (hn : As.length = n)
    (hf : f2 + 1 ≤ fr) (hlo : 8 + (maxL + 11) + l2 ≤ lo) (hc : xcn X + cl ≤ (xR X).cells) (hs : xsn X + sl ≤ (xR X).slots) (hW : (st.map fun v => v.category).sum ≤ 8) (hdg : decode cc pc = .ok (.invokestatic idx, 3)) (hst : st0 = As.reverse ++ st)
    (kk : oR t1 r1 → VJ L2 w (xInc X cl sl) nL t r M1 M2 lv ((oV t1 w r1).toList ++ st) (pc + 3)) : VJ L w X nL t r M1 M lv st0 pc := by
  refine vj_behindN hA (mc := cl) (ms := sl) (M2 := M2) (t1 := t1) (r1 := r1) (aa := As.toArray) (fun H locs ls hP hS hl => ?_) kk
  subst hst
  have hG : GoodIn ALL (wsOf y code maxL ret2) := lt_all (m1 := []) (fun c h => absurd h List.not_mem_nil) q5
  have hts := G.2.2.2.2.1
  have hcb : CallB (xR X) (xs X) (xa X) own idx y code maxL ret2 (wsOf y code maxL ret2) { frames := f2, cells := cl, slots := sl, locals := l2 } cl sl n :=
    callB_of (ws' := ALL) n G.2.2.2.2.1 hG rfl rfl rfl (hts _ q4) (hts _ q1) hd ⟨Nat.le_trans hf G.2.2.2.2.2.2.2.2.2.2.2.1, Nat.le_trans hlo G.2.2.2.2.2.2.2.2.2.2.2.2⟩
  exact va_runS (As := As) (rest := st) ⟨G.1, G.2.1, G.2.2.1, G.2.2.2.1, G.2.2.2.2.1⟩ (hC (xl X)) ⟨hcb, hts _ q2⟩ ⟨bx_blind G.2.2.2.2.2.2.2.2.2.2.1 _, bx_at G hP hS _⟩ rfl hn hl.1 rfl (lv_room hW) hdg ⟨hc, hs⟩
end CTN
