/-! Rows of references, made in constructors. -/
theorem stL_growM {L : Lay} {evK : Nat → Nat} {evF : Nat → Nat → Nat} {Z : Nat → Wd → Nat → Prop} {e : Nat} {ks : List Nat} (hk : ∀ k ∈ ks, evK k = e) (hu : ∀ k', evK k' = e → k' ∈ ks) (hF : ∀ c j, evF c j ≠ e) : Grow (stL L evK evF Z e) (stL L evK evF Z (e + 1)) ks := by
  refine ⟨rfl, rfl, fun k' hk' => ?_, fun k' hk' => ?_, fun c => ?_⟩
  · have h2 : evK k' ≠ e := fun q => hk' (hu k' q)
    show (if evK k' < e + 1 then lk L k' else (9, 0, 0)) = (if evK k' < e then lk L k' else (9, 0, 0))
    by_cases c : evK k' < e
    · rw [if_pos c, if_pos (by omega)]
    · rw [if_neg c, if_neg (by omega)]
  · have h1 := hk k' hk'
    show (if evK k' < e then lk L k' else (9, 0, 0)).1 = 9
    rw [if_neg (by omega)]
  · exact stFl_ne (hF c)
section
variable {L : Lay} {l : List Nat} {fl : List (List Nat)} {cnt : List Nat} {z0 : Nat} {w : Wd} {X : Cx} {own : String} {cc : ByteArray} {nL fr lo e0 e1 cl sl : Nat} {t pc : Nat} {r : Int} {M1 M : Mm} {lv : List (Nat × Value)} {st : List Value}
theorem gbx (B : GB (SLy L l fl cnt z0) w X own cc nL fr lo e0 e1 cl sl) {e a b : Nat} (h : e0 ≤ e ∧ e ≤ e1 ∧ a ≤ cl ∧ b ≤ sl) : Gc (SLy L l fl cnt z0 e) w (xInc X a b) own cc nL fr lo := B e a b h.1 h.2.1 h.2.2.1 h.2.2.2
theorem i32_ge {n : Nat} (h : n < 2147483648) : ¬ i32 (n : Int) < 0 := by
  intro q
  have h9 := i32_lt (x := (n : Int)) (y := 0) ⟨by omega, by omega⟩ ir_0
  have := h9.mp q
  omega
theorem i32_nn {n : Nat} (h : n < 2147483647) : (i32 (n : Int)).toNatClampNeg = n := by
  rw [i32_nat (n := n + 1) ⟨by omega, by omega⟩ (by omega)]; omega
theorem wof {off : List Nat} {k e : Nat} (h : ∀ k, wa w k = wa w z0 + evO off k) (hh : evO off k = evO cnt e) : wa w k = wa w z0 + evO cnt e := by rw [h k, hh]
theorem hnew_st {off : List Nat} (hwo : ∀ k, wa w k = wa w z0 + evO off k) (he0 : 0 < e0) (h9 : ∀ i, i < l.length → e0 ≤ evO l i → evO cnt e0 ≤ evO off i) : ∀ k, pr (SLy L l fl cnt z0 e1) w k → pr (SLy L l fl cnt z0 e0) w k ∨ ∀ n, lz (SLy L l fl cnt z0 e0) w n → n ≤ wa w k := by
  intro k hk
  by_cases c : evO l k < e0
  · refine Or.inl ?_
    by_cases d : evO l k < e1
    · unfold pr at hk ⊢
      rw [stL_at d] at hk
      rw [stL_at c]
      exact hk
    · unfold pr at hk
      rw [stL_no d] at hk
      exact absurd rfl hk.1
  · refine Or.inr fun n hn => ?_
    have hn : n = wa w z0 + evO cnt e0 := hn
    have hk2 : k < l.length := by
      rcases Nat.lt_or_ge k l.length with q | q
      · exact q
      · have : evO l k = 0 := by unfold evO; rw [List.getElem?_eq_none q]; rfl
        omega
    have h := h9 k hk2 (by omega)
    rw [hwo k]
    omega
/-- a constructor's call -/
theorem sn_c (B : GB (SLy L l fl cnt z0) w X own cc nL fr lo e0 e1 cl sl) {e e' a a' b b' : Nat} {y : MethodName} {code : ByteArray} {maxL f2 c2 s2 l2 idx bb n : Nat} {As st0 : List Value} {M2 : Mm} (hb : e0 ≤ e ∧ e ≤ e' ∧ e' ≤ e1 ∧ a' ≤ cl ∧ b' ≤ sl ∧ a + c2 = a' ∧ b + s2 = b')
    (hC : Ctn (SLy L l fl cnt z0 e) (SLy L l fl cnt z0 e') w y code maxL none f2 c2 s2 l2 0 (.ref bb :: As) M 0 M2)
    (q1 : Cond.methodLink own idx y ∈ ALL) (q2 : Cond.instanceMethod y ∈ ALL ∧ Cond.initialized y.cls ∈ ALL ∧ Cond.code y code maxL none ∈ ALL ∧ (y.cls ≠ "java/lang/invoke/MethodHandle" ∧ y.cls ≠ "java/lang/invoke/VarHandle" ∧ (parseMethodDescriptor y.desc).map (fun d => d.parameters.length) = some n)) (hi : y.name = "<init>") (hn : As.length = n)
    (hf : f2 + 1 ≤ fr ∧ 8 + (maxL + 11) + l2 ≤ lo) (hW : (st.map fun v => v.category).sum ≤ 8) (hdg : decode cc pc = .ok (.invokespecial idx, 3)) (hst : st0 = As.reverse ++ .ref bb :: st)
    (kk : VJ (SLy L l fl cnt z0 e') w (xInc X a' b') nL t r M1 M2 lv st (pc + 3)) : VJ (SLy L l fl cnt z0 e) w (xInc X a b) nL t r M1 M lv st0 pc := by
  obtain ⟨b1, b2, b3, b4, b5, rfl, rfl⟩ := hb
  have G := B e a b b1 (by omega) (by omega) (by omega)
  have R := gb_c B (e := e') (Nat.le_trans b1 b2) b3 b4 b5
  have G2 := B e' (a + c2) (b + s2) (Nat.le_trans b1 b2) b3 b4 b5
  refine vj_callI G (L2 := SLy L l fl cnt z0 e') hC (fun q h => G2.2.2.2.2.2.2.2.2.1.1 q h) q1 q2.1 q2.2.1 q2.2.2.1 hi q2.2.2.2 hn hf.1 hf.2 (by show xcn X + a + c2 ≤ _; rw [Nat.add_assoc]; exact R.1) (by show xsn X + b + s2 ≤ _; rw [Nat.add_assoc]; exact R.2) hW hdg hst ?_
  rw [xInc_add]
  exact kk
/-- a call of a private constructor of a nest mate -/
theorem vj_callIN {L2 L : Lay} {w : Wd} {X : Cx} {own host : String} {cc : ByteArray} {nL fr lo : Nat} {t : Nat} {r : Int} {M1 M : Mm} {lv : List (Nat × Value)} {st st0 : List Value} {pc : Nat} (G : Gc L w X own cc nL fr lo) {y : MethodName} {code : ByteArray} {maxL f2 c2 s2 l2 idx b n : Nat} {As : List Value} {M2 : Mm}
    (hC : Ctn L L2 w y code maxL none f2 c2 s2 l2 0 (.ref b :: As) M 0 M2) (hA : ∀ q, Aw L2 w q → xA X q)
    (q1 : va_Nw (.methodLinkNest own idx y host) (xs X)) (q2 : Cond.instanceMethod y ∈ ALL) (q4 : Cond.initialized y.cls ∈ ALL) (q5 : Cond.code y code maxL none ∈ ALL) (hi : y.name = "<init>")
    (hd : y.cls ≠ "java/lang/invoke/MethodHandle" ∧ y.cls ≠ "java/lang/invoke/VarHandle" ∧ (parseMethodDescriptor y.desc).map (fun d => d.parameters.length) = some n) (hn : As.length = n)
    (hf : f2 + 1 ≤ fr) (hlo : 8 + (maxL + 11) + l2 ≤ lo) (hc : xcn X + c2 ≤ (xR X).cells) (hs : xsn X + s2 ≤ (xR X).slots) (hW : (st.map fun v => v.category).sum ≤ 8) (hdg : decode cc pc = .ok (.invokespecial idx, 3)) (hst : st0 = As.reverse ++ .ref b :: st)
    (kk : VJ L2 w (xInc X c2 s2) nL t r M1 M2 lv st (pc + 3)) : VJ L w X nL t r M1 M lv st0 pc := by
  refine vj_behindN hA (mc := c2) (ms := s2) (M2 := M2) (t1 := 0) (r1 := 0) (aa := (Value.ref b :: As).toArray) (fun H locs ls hP hS hl => ?_) (fun _ => kk)
  subst hst
  have hG : GoodIn ALL (wsOf y code maxL none) := lt_all (m1 := []) (fun c h => absurd h List.not_mem_nil) q5
  have hts := G.2.2.2.2.1
  have hcn := va_cnB (R := xR X) (s := xs X) (args := xa X) (Ts := ALL) (own := own) (host := host) (index := idx) (y := y) (bytes := code) (maxL := maxL) (ret := none) (ws := wsOf y code maxL none) (rm := { frames := f2, cells := c2, slots := s2, locals := l2 }) (mc := c2) (ms := s2) n G.2.2.2.2.1 hG rfl rfl rfl q1 (hts _ q4) hd ⟨Nat.le_trans hf G.2.2.2.2.2.2.2.2.2.2.2.1, Nat.le_trans hlo G.2.2.2.2.2.2.2.2.2.2.2.2⟩
  exact va_runIN (As := As) (rest := st) ⟨G.1, G.2.1, G.2.2.1, G.2.2.2.1, G.2.2.2.2.1⟩ (hC (xl X)) ⟨hcn, hi, hts _ q2⟩ ⟨bx_blind G.2.2.2.2.2.2.2.2.2.2.1 _, bx_at G hP hS _⟩ rfl hn hl.1 rfl (lv_room hW) hdg ⟨hc, hs⟩
theorem sn_cN (B : GB (SLy L l fl cnt z0) w X own cc nL fr lo e0 e1 cl sl) {e e' a a' b b' : Nat} {y : MethodName} {code : ByteArray} {maxL f2 c2 s2 l2 idx bb n : Nat} {host : String} {As st0 : List Value} {M2 : Mm} (hb : e0 ≤ e ∧ e ≤ e' ∧ e' ≤ e1 ∧ a' ≤ cl ∧ b' ≤ sl ∧ a + c2 = a' ∧ b + s2 = b')
    (hC : Ctn (SLy L l fl cnt z0 e) (SLy L l fl cnt z0 e') w y code maxL none f2 c2 s2 l2 0 (.ref bb :: As) M 0 M2)
    (q1 : va_Nw (.methodLinkNest own idx y host) (xs X)) (q2 : Cond.instanceMethod y ∈ ALL ∧ Cond.initialized y.cls ∈ ALL ∧ Cond.code y code maxL none ∈ ALL ∧ (y.cls ≠ "java/lang/invoke/MethodHandle" ∧ y.cls ≠ "java/lang/invoke/VarHandle" ∧ (parseMethodDescriptor y.desc).map (fun d => d.parameters.length) = some n)) (hi : y.name = "<init>") (hn : As.length = n)
    (hf : f2 + 1 ≤ fr ∧ 8 + (maxL + 11) + l2 ≤ lo) (hW : (st.map fun v => v.category).sum ≤ 8) (hdg : decode cc pc = .ok (.invokespecial idx, 3)) (hst : st0 = As.reverse ++ .ref bb :: st)
    (kk : VJ (SLy L l fl cnt z0 e') w (xInc X a' b') nL t r M1 M2 lv st (pc + 3)) : VJ (SLy L l fl cnt z0 e) w (xInc X a b) nL t r M1 M lv st0 pc := by
  obtain ⟨b1, b2, b3, b4, b5, rfl, rfl⟩ := hb
  have G := B e a b b1 (by omega) (by omega) (by omega)
  have R := gb_c B (e := e') (Nat.le_trans b1 b2) b3 b4 b5
  have G2 := B e' (a + c2) (b + s2) (Nat.le_trans b1 b2) b3 b4 b5
  refine vj_callIN G (L2 := SLy L l fl cnt z0 e') hC (fun q h => G2.2.2.2.2.2.2.2.2.1.1 q h) q1 q2.1 q2.2.1 q2.2.2.1 hi q2.2.2.2 hn hf.1 hf.2 (by show xcn X + a + c2 ≤ _; rw [Nat.add_assoc]; exact R.1) (by show xsn X + b + s2 ≤ _; rw [Nat.add_assoc]; exact R.2) hW hdg hst ?_
  rw [xInc_add]
  exact kk
/-- a constructor's end -/
theorem sn_ret {M : Mm} {nm : String} (B : GB (SLy L l fl cnt z0) w X own cc nL fr lo e0 e1 cl sl) (G9 : Gn (SLy L l fl cnt z0 e0) (SLy L l fl cnt z0 e1) w X own cc nL fr cl sl lo none nm) (h : e0 ≤ e1) (hdg : decode cc pc = .ok (.return_, 1)) : VJ (SLy L l fl cnt z0 e1) w (xInc X cl sl) nL 0 0 M M lv [] pc := by
  have G := B e1 cl sl h (Nat.le_refl _) (Nat.le_refl _) (Nat.le_refl _)
  refine vj_vret (lo := lo) (fr := fr) ⟨G, G9.2.1, G9.2.2.1, ?_⟩ hdg
  show xQ X = fun t r M1 => MQ (xb X) (Qx (SLy L l fl cnt z0 e1) w t r M1) (xa X) (xs X) (xcn X + cl) (xsn X + sl) (xA X)
  rw [G9.2.2.2.2.2.2.2.1, G9.2.2.2.1, G9.2.2.2.2.1, Nat.zero_add, Nat.zero_add]
/-- the row of things that come one by one -/
theorem sn_h (B : GB (SLy L l fl cnt z0) w X own cc nL fr lo e0 e1 cl sl) {e e' a a' b b' k n z idx : Nat} (hb : e0 ≤ e ∧ e' ≤ e1 ∧ a' ≤ cl ∧ b' ≤ sl ∧ e + 1 = e' ∧ a + 1 = a' ∧ b + n = b' ∧ n < 100000 ∧ 0 < e) (hk : lk L k = (7, n, z)) (hev : evO l k = e) (hu : chK l 0 e (fun i => i == k) = true) (hf : chG fl 0 e (fun _ _ => false) = true) (hc : evO cnt e' = evO cnt e + 1) (hw : wa w k = wa w z0 + evO cnt e) (h0 : ∀ j, M k j = 0) (hwn : wn w = 0) (hAO : va_AO "WhoRules$Holder" (xs X)) (q1 : Cond.classLink own idx "WhoRules$Holder" ∈ ALL) (hdg : decode cc pc = .ok (.anewarray idx, 3)) (kk : VJ (SLy L l fl cnt z0 e') w (xInc X a' b') nL t r M1 M lv (.ref (wa w k) :: st) (pc + 3)) : VJ (SLy L l fl cnt z0 e) w (xInc X a b) nL t r M1 M lv (.int (i32 (n : Int)) :: st) pc := by
  obtain ⟨b1, b2, b3, b4, rfl, rfl, rfl, b5, b6⟩ := hb
  have G := B e a b b1 (by omega) (by omega) (by omega)
  have R := gb_c B (e := e + 1) (Nat.le_trans b1 (Nat.le_succ e)) b2 b3 b4
  intro H locs ls hP hS hl
  have hz : H.size = wa w z0 + evO cnt e := hP.2.2.2.2.2
  have hm : H.size = wa w k := hz.trans hw.symm
  have en := i32_nn (n := n) (by omega)
  have hk2 : lk (SLy L l fl cnt z0 (e + 1)) k = (7, n, z) := (stL_at (show evO l k < e + 1 by omega)).trans hk
  refine W.anew G.1 G.2.1 G.2.2.2.1 (G.2.2.2.2.1 _ q1) (va_AO.use hAO) rfl hdg rfl (i32_ge (by omega)) (by rw [en]; omega) R.1 (by rw [en]; show xsn X + b + n ≤ _; rw [Nat.add_assoc]; exact R.2) fun cA kA comp f1 f2 f3 f4 => ?_
  rw [en]
  generalize hH1 : H.push ({ cls := cA, slots := Array.replicate n .null, vm := .none } : Cell) = H1
  have z1 : H1.size = H.size + 1 := by rw [← hH1, Array.size_push]
  have e1 : H1[H.size]? = some (arrV cA n (fun _ => .null)) := by rw [← hH1, Array.getElem?_push_size, ← arrV_new]
  have o1 : ∀ q : Nat, q < H.size → H1[q]? = H[q]? := fun q hq => by rw [← hH1, Array.getElem?_push, if_neg (Nat.ne_of_lt hq)]
  have hcA : cA = wT w 6 := by
    obtain ⟨kA', comp', -, -, -, h5⟩ := (G.2.2.2.2.2.1.2 6 _ rfl).2
    exact Option.some.inj (f1.symm.trans h5)
  have hP1 : Rp (SLy L l fl cnt z0 (e + 1)) w M H1 := by
    refine grow_rp (stL_grow hev (fun k' q => by simpa using evO_u b6 hu k' q) (fun c j q => by have h := evG_u b6 hf c j q; cases h)) hP o1 (fun k' hk' => ?_) (fun k' hk' => ?_) ?_
    · have e9 : k' = k := by simpa using hk'
      subst e9
      unfold eO
      rw [hk2]
      show H1[wa w k']? = some (vp_cell (wT w 6) (n, .inr (.inr (.inr (.inr (fun j => if (j : Int) < wn w then some (wa w (z + j)) else none))))))
      rw [← hm, e1, hcA, vp_cell_q]
      refine congrArg some (arrV_cg fun j hj => ?_)
      rw [hwn, if_neg (by omega)]
      rfl
    · have e9 : k' = k := by simpa using hk'
      subst e9; exact h0
    · show H1.size = wa w z0 + evO cnt (e + 1)
      rw [z1, hc]; omega
  have k2 : VJ (SLy L l fl cnt z0 (e + 1)) w (xInc (xInc X a b) 1 n) nL t r M1 M lv (.ref (wa w k) :: st) (pc + 3) := by rw [xInc_add]; exact kk
  have h := k2 H1 locs ls hP1 (s_push (fun _ => trivial) hS z1 o1) hl
  rw [← hm] at h
  exact h
theorem sn_mi (B : GB (SLy L l fl cnt z0) w X own cc nL fr lo e0 e1 cl sl) {e e' a a' b b' k n z K idx : Nat} (hb : e0 ≤ e ∧ e' ≤ e1 ∧ a' ≤ cl ∧ b' ≤ sl ∧ e + 1 = e' ∧ a + (1 + n) = a' ∧ b + (n + n * K) = b' ∧ n < 1000 ∧ K < 1000 ∧ 0 < e) (hk : lk L k = (5, n, z)) (hki : ∀ j, j < n → lk L (z + j) = (0, K, 0)) (hev : evO l k = e) (hevi : ∀ j, j < n → evO l (z + j) = e) (hu : chK l 0 e (fun i => i == k || (decide (z ≤ i) && decide (i < z + n))) = true) (hf : chG fl 0 e (fun _ _ => false) = true) (hc : evO cnt e' = evO cnt e + 1 + n) (hw : wa w k = wa w z0 + evO cnt e) (hwi : ∀ j, j < n → wa w (z + j) = wa w z0 + (evO cnt e + 1 + j)) (h0 : ∀ i j, M i j = 0) (hAO : (Cond.arrayOver (.array .int)).before #[] (xs X) = true) (q1 : Cond.classLink own idx ("[" ++ (FieldType.array .int).toString) ∈ ALL) (q3 : Cond.arrayClass .int ∈ ALL) (hdg : decode cc pc = .ok (.multianewarray idx 2, 4)) (kk : VJ (SLy L l fl cnt z0 e') w (xInc X a' b') nL t r M1 M lv (.ref (wa w k) :: st) (pc + 4)) : VJ (SLy L l fl cnt z0 e) w (xInc X a b) nL t r M1 M lv (.int (i32 (K : Int)) :: .int (i32 (n : Int)) :: st) pc := by
  obtain ⟨b1, b2, b3, b4, rfl, rfl, rfl, b5, b7, b6⟩ := hb
  have G := B e a b b1 (by omega) (by omega) (by omega)
  have R := gb_c B (e := e + 1) (Nat.le_trans b1 (Nat.le_succ e)) b2 b3 b4
  intro H locs ls hP hS hl
  have hz : H.size = wa w z0 + evO cnt e := hP.2.2.2.2.2
  have hm : H.size = wa w k := hz.trans hw.symm
  have hk2 : lk (SLy L l fl cnt z0 (e + 1)) k = (5, n, z) := (stL_at (show evO l k < e + 1 by omega)).trans hk
  have hki2 : ∀ j, j < n → lk (SLy L l fl cnt z0 (e + 1)) (z + j) = (0, K, 0) := fun j hj => (stL_at (show evO l (z + j) < e + 1 by rw [hevi j hj]; omega)).trans (hki j hj)
  have hAO2 : (Cond.arrayOver (.array .int)).before (xa X) (xs X) = true := hAO
  refine multi_run (cc := cc) (ty := .int) (N := n) (K := K) (h := wa w k) G.1 G.2.1 G.2.2.2.1 (G.2.2.2.2.1 _ q1) hAO2 (G.2.2.2.2.1 _ q3) rfl hdg rfl (i32_ge (by omega)) (i32_ge (by omega)) (i32_nn (by omega)) (i32_nn (by omega)) (by omega) (by show K * 4 ≤ _; omega) (by omega) rfl rfl (by show xcn X + a + (1 + n) ≤ _; rw [Nat.add_assoc]; exact R.1) (by show xsn X + b + (n + n * K) ≤ _; rw [Nat.add_assoc]; exact R.2) hm (fun H1 cA comp f1 f2 g1 gi z1 o1 => ?_)
  have hcA : cA = wT w 4 := Option.some.inj (f1.symm.trans (G.2.2.2.2.2.1.2 4 _ rfl).2)
  have hcm : comp = wT w 0 := Option.some.inj (f2.symm.trans (G.2.2.2.2.2.1.2 0 _ rfl).2)
  subst hcA
  subst hcm
  have hP1 : Rp (SLy L l fl cnt z0 (e + 1)) w M H1 := by
    refine grow_rp (ks := k :: (List.range n).map (fun j => z + j)) (stL_growM (fun k' hk' => ?_) (fun k' q => ?_) (fun c j q => by have h := evG_u b6 hf c j q; cases h)) hP (fun q hq => o1 q (by omega)) (fun k' hk' => ?_) (fun k' _ => h0 k') ?_
    · rcases List.mem_cons.mp hk' with q | q
      · rw [q]; exact hev
      · obtain ⟨j, hj, rfl⟩ := List.mem_map.mp q
        exact hevi j (List.mem_range.mp hj)
    · have h := evO_u b6 hu k' q
      have h : k' = k ∨ (z ≤ k' ∧ k' < z + n) := by simpa using h
      rcases h with h | h
      · rw [h]; exact List.mem_cons_self
      · exact List.mem_cons_of_mem _ (List.mem_map.mpr ⟨k' - z, List.mem_range.mpr (by omega), by omega⟩)
    · rcases List.mem_cons.mp hk' with q | q
      · subst q
        unfold eO
        rw [hk2]
        show H1[wa w k']? = some (vp_cell (wT w 4) (n, .inr (.inr (.inr (.inr (fun j => some (wa w (z + j))))))))
        rw [g1, vp_cell_q]
        refine congrArg some (arrV_cg fun j hj => ?_)
        show Value.ref (wa w k' + 1 + j) = .ref (wa w (z + j))
        have e5 : wa w k' + 1 + j = wa w (z + j) := by
          have e6 := hwi j hj
          omega
        rw [e5]
      · obtain ⟨j, hj, rfl⟩ := List.mem_map.mp q
        have hj := List.mem_range.mp hj
        unfold eO
        rw [hki2 j hj]
        show H1[wa w (z + j)]? = some (arrV (wT w 0) K (fun i => .int (i32 (M (z + j) i))))
        have hg := gi j hj
        rw [hw, show wa w z0 + evO cnt e + 1 + j = wa w z0 + (evO cnt e + 1 + j) by omega, ← hwi j hj] at hg
        rw [hg]
        refine congrArg some (arrV_cg fun i _ => ?_)
        rw [h0 (z + j) i]; rfl
    · show H1.size = wa w z0 + evO cnt (e + 1)
      rw [z1, hc]; omega
  have k2 : VJ (SLy L l fl cnt z0 (e + 1)) w (xInc (xInc X a b) (1 + n) (n + n * K)) nL t r M1 M lv (.ref (wa w k) :: st) (pc + 4) := by rw [xInc_add]; exact kk
  exact k2 H1 locs ls hP1 ⟨Nat.le_trans hS.1 (by omega), fun q h1 h2 => (o1 q (by rw [← hm]; exact Nat.lt_of_lt_of_le h1 hS.1)).trans (hS.2.1 q h1 h2), hS.2.2⟩ hl
theorem sn_mj (B : GB (SLy L l fl cnt z0) w X own cc nL fr lo e0 e1 cl sl) {e e' a a' b b' k n z K idx : Nat} (hb : e0 ≤ e ∧ e' ≤ e1 ∧ a' ≤ cl ∧ b' ≤ sl ∧ e + 1 = e' ∧ a + (1 + n) = a' ∧ b + (n + n * K) = b' ∧ n < 1000 ∧ K < 1000 ∧ 0 < e) (hk : lk L k = (6, n, z)) (hki : ∀ j, j < n → lk L (z + j) = (2, K, 0)) (hev : evO l k = e) (hevi : ∀ j, j < n → evO l (z + j) = e) (hu : chK l 0 e (fun i => i == k || (decide (z ≤ i) && decide (i < z + n))) = true) (hf : chG fl 0 e (fun _ _ => false) = true) (hc : evO cnt e' = evO cnt e + 1 + n) (hw : wa w k = wa w z0 + evO cnt e) (hwi : ∀ j, j < n → wa w (z + j) = wa w z0 + (evO cnt e + 1 + j)) (h0 : ∀ i j, M i j = 0) (hAO : (Cond.arrayOver (.array .long)).before #[] (xs X) = true) (q1 : Cond.classLink own idx ("[" ++ (FieldType.array .long).toString) ∈ ALL) (q3 : Cond.arrayClass .long ∈ ALL) (hdg : decode cc pc = .ok (.multianewarray idx 2, 4)) (kk : VJ (SLy L l fl cnt z0 e') w (xInc X a' b') nL t r M1 M lv (.ref (wa w k) :: st) (pc + 4)) : VJ (SLy L l fl cnt z0 e) w (xInc X a b) nL t r M1 M lv (.int (i32 (K : Int)) :: .int (i32 (n : Int)) :: st) pc := by
  obtain ⟨b1, b2, b3, b4, rfl, rfl, rfl, b5, b7, b6⟩ := hb
  have G := B e a b b1 (by omega) (by omega) (by omega)
  have R := gb_c B (e := e + 1) (Nat.le_trans b1 (Nat.le_succ e)) b2 b3 b4
  intro H locs ls hP hS hl
  have hz : H.size = wa w z0 + evO cnt e := hP.2.2.2.2.2
  have hm : H.size = wa w k := hz.trans hw.symm
  have hk2 : lk (SLy L l fl cnt z0 (e + 1)) k = (6, n, z) := (stL_at (show evO l k < e + 1 by omega)).trans hk
  have hki2 : ∀ j, j < n → lk (SLy L l fl cnt z0 (e + 1)) (z + j) = (2, K, 0) := fun j hj => (stL_at (show evO l (z + j) < e + 1 by rw [hevi j hj]; omega)).trans (hki j hj)
  have hAO2 : (Cond.arrayOver (.array .long)).before (xa X) (xs X) = true := hAO
  refine multi_run (cc := cc) (ty := .long) (N := n) (K := K) (h := wa w k) G.1 G.2.1 G.2.2.2.1 (G.2.2.2.2.1 _ q1) hAO2 (G.2.2.2.2.1 _ q3) rfl hdg rfl (i32_ge (by omega)) (i32_ge (by omega)) (i32_nn (by omega)) (i32_nn (by omega)) (by omega) (by show K * 8 ≤ _; omega) (by omega) rfl rfl (by show xcn X + a + (1 + n) ≤ _; rw [Nat.add_assoc]; exact R.1) (by show xsn X + b + (n + n * K) ≤ _; rw [Nat.add_assoc]; exact R.2) hm (fun H1 cA comp f1 f2 g1 gi z1 o1 => ?_)
  have hcA : cA = wT w 5 := Option.some.inj (f1.symm.trans (G.2.2.2.2.2.1.2 5 _ rfl).2)
  have hcm : comp = wT w 2 := Option.some.inj (f2.symm.trans (G.2.2.2.2.2.1.2 2 _ rfl).2)
  subst hcA
  subst hcm
  have hP1 : Rp (SLy L l fl cnt z0 (e + 1)) w M H1 := by
    refine grow_rp (ks := k :: (List.range n).map (fun j => z + j)) (stL_growM (fun k' hk' => ?_) (fun k' q => ?_) (fun c j q => by have h := evG_u b6 hf c j q; cases h)) hP (fun q hq => o1 q (by omega)) (fun k' hk' => ?_) (fun k' _ => h0 k') ?_
    · rcases List.mem_cons.mp hk' with q | q
      · rw [q]; exact hev
      · obtain ⟨j, hj, rfl⟩ := List.mem_map.mp q
        exact hevi j (List.mem_range.mp hj)
    · have h := evO_u b6 hu k' q
      have h : k' = k ∨ (z ≤ k' ∧ k' < z + n) := by simpa using h
      rcases h with h | h
      · rw [h]; exact List.mem_cons_self
      · exact List.mem_cons_of_mem _ (List.mem_map.mpr ⟨k' - z, List.mem_range.mpr (by omega), by omega⟩)
    · rcases List.mem_cons.mp hk' with q | q
      · subst q
        unfold eO
        rw [hk2]
        show H1[wa w k']? = some (vp_cell (wT w 5) (n, .inr (.inr (.inr (.inr (fun j => some (wa w (z + j))))))))
        rw [g1, vp_cell_q]
        refine congrArg some (arrV_cg fun j hj => ?_)
        show Value.ref (wa w k' + 1 + j) = .ref (wa w (z + j))
        have e5 : wa w k' + 1 + j = wa w (z + j) := by
          have e6 := hwi j hj
          omega
        rw [e5]
      · obtain ⟨j, hj, rfl⟩ := List.mem_map.mp q
        have hj := List.mem_range.mp hj
        unfold eO
        rw [hki2 j hj]
        show H1[wa w (z + j)]? = some (arrV (wT w 2) K (fun i => .long (i64 (M (z + j) i))))
        have hg := gi j hj
        rw [hw, show wa w z0 + evO cnt e + 1 + j = wa w z0 + (evO cnt e + 1 + j) by omega, ← hwi j hj] at hg
        rw [hg]
        refine congrArg some (arrV_cg fun i _ => ?_)
        rw [h0 (z + j) i]; rfl
    · show H1.size = wa w z0 + evO cnt (e + 1)
      rw [z1, hc]; omega
  have k2 : VJ (SLy L l fl cnt z0 (e + 1)) w (xInc (xInc X a b) (1 + n) (n + n * K)) nL t r M1 M lv (.ref (wa w k) :: st) (pc + 4) := by rw [xInc_add]; exact kk
  exact k2 H1 locs ls hP1 ⟨Nat.le_trans hS.1 (by omega), fun q h1 h2 => (o1 q (by rw [← hm]; exact Nat.lt_of_lt_of_le h1 hS.1)).trans (hS.2.1 q h1 h2), hS.2.2⟩ hl
end
