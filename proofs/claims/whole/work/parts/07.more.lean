/-! What the written walks use. -/
def MRk (L : Lay) (M : Mm) : Prop := ∀ k j, rT (tO L k j) (M k j)
theorem mr_o {L : Lay} {M : Mm} (hM : MRk L M) {k ci j z : Nat} (hk : lk L k = (4, ci, 0)) (hf : (lf L ci)[j]? = some (0, z)) : inR (M k j) := by
  have h := hM k j
  have ht : tO L k j = 0 := by unfold tO; rw [hk]; show (((lf L ci)[j]?).getD (0, 0)).1 = 0; rw [hf]; rfl
  rw [ht] at h
  exact h
theorem mr_ob {L : Lay} {M : Mm} (hM : MRk L M) {k ci j z : Nat} (hk : lk L k = (4, ci, 0)) (hf : (lf L ci)[j]? = some (3, z)) : inB (M k j) := by
  have h := hM k j
  have ht : tO L k j = 3 := by unfold tO; rw [hk]; show (((lf L ci)[j]?).getD (0, 0)).1 = 3; rw [hf]; rfl
  rw [ht] at h
  exact h
theorem mr_ol {L : Lay} {M : Mm} (hM : MRk L M) {k ci j z : Nat} (hk : lk L k = (4, ci, 0)) (hf : (lf L ci)[j]? = some (2, z)) : in64 (M k j) := by
  have h := hM k j
  have ht : tO L k j = 2 := by unfold tO; rw [hk]; show (((lf L ci)[j]?).getD (0, 0)).1 = 2; rw [hf]; rfl
  rw [ht] at h
  exact h
theorem mr_a {L : Lay} {M : Mm} (hM : MRk L M) {k n b j : Nat} (hk : lk L k = (0, n, b)) : inR (M k j) := by
  have h := hM k j
  have ht : tO L k j = 0 := by unfold tO; rw [hk]; rfl
  rw [ht] at h
  exact h
theorem mr_ab {L : Lay} {M : Mm} (hM : MRk L M) {k n b j : Nat} (hk : lk L k = (1, n, b)) : inR (M k j) := by
  have h := hM k j
  have ht : tO L k j = 0 := by unfold tO; rw [hk]; rfl
  rw [ht] at h
  exact h
theorem mr_al {L : Lay} {M : Mm} (hM : MRk L M) {k n b j : Nat} (hk : lk L k = (2, n, b)) : in64 (M k j) := by
  have h := hM k j
  have ht : tO L k j = 2 := by unfold tO; rw [hk]; rfl
  rw [ht] at h
  exact h
theorem mr_az {L : Lay} {M : Mm} (hM : MRk L M) {k n b j : Nat} (hk : lk L k = (3, n, b)) : inB (M k j) := by
  have h := hM k j
  have ht : tO L k j = 3 := by unfold tO; rw [hk]; rfl
  rw [ht] at h
  exact h
theorem gx_ij {L : Lay} {w : Wd} {X : Cx} {own : String} {cc : ByteArray} {nL fr lo : Nat} (G : Gc L w X own cc nL fr lo) : ij L w := G.2.2.2.2.2.2.2.2.2.1
section MORE
variable {L : Lay} {w : Wd} {X : Cx} {own : String} {cc : ByteArray} {nL fr lo : Nat} {t : Nat} {r : Int} {M1 M : Mm} {lv : List (Nat × Value)} {st st0 : List Value} {pc : Nat}
theorem vj_mr (h : MRk L M → VJ L w X nL t r M1 M lv st pc) : VJ L w X nL t r M1 M lv st pc := fun H locs ls hP hS hl => h hP.2.1 H locs ls hP hS hl
theorem vj_wr (h : M (lh L) 0 = wn w → M 900 = wK w → M 901 = wF w → VJ L w X nL t r M1 M lv st pc) : VJ L w X nL t r M1 M lv st pc := fun H locs ls hP hS hl => h hP.2.2.1 hP.2.2.2.1 hP.2.2.2.2.1 H locs ls hP hS hl
theorem vj_callV0 (G : Gc L w X own cc nL fr lo) {y : MethodName} {code : ByteArray} {maxL : Nat} {ret2 : Option FieldType} {f2 l2 idx k ci : Nat} {As : List Value} {r1 : Int} {M2 : Mm} {C : String} {T : u_T} {N n : Nat}
    (hC : Ct L w y code maxL ret2 f2 l2 0 (.ref (wa w k) :: As) M r1 M2) (hk : lk L k = (4, ci, 0)) (hc : (lC L)[ci]? = some (C, T, N)) (hy : y.cls = C) (q1 : Cond.methodLink own idx y ∈ ALL) (cq : cqV y code maxL ret2 n) (hn : As.length = n)
    (hf : f2 + 1 ≤ fr) (hlo : 8 + (maxL + 11) + l2 ≤ lo) (hW : (st.map fun v => v.category).sum ≤ 8) (hdg : decode cc pc = .ok (.invokevirtual idx, 3)) (hst : st0 = As.reverse ++ .ref (wa w k) :: st)
    (kk : True → VJ L w X nL t r M1 M2 lv st (pc + 3)) : VJ L w X nL t r M1 M lv st0 pc :=
  vj_callV G hC hk hc hy q1 cq.1 (by rw [← hy]; exact cq.2.1) (by rw [← hy]; exact cq.2.2.1) cq.2.2.2.1 cq.2.2.2.2 hn hf hlo hW hdg hst kk
theorem vj_callS0 (G : Gc L w X own cc nL fr lo) {y : MethodName} {code : ByteArray} {maxL : Nat} {ret2 : Option FieldType} {f2 l2 idx : Nat} {As : List Value} {r1 : Int} {M2 : Mm} {n : Nat}
    (hC : Ct L w y code maxL ret2 f2 l2 0 As M r1 M2) (q1 : Cond.methodLink own idx y ∈ ALL) (cq : cqS y code maxL ret2 n) (hn : As.length = n)
    (hf : f2 + 1 ≤ fr) (hlo : 8 + (maxL + 11) + l2 ≤ lo) (hW : (st.map fun v => v.category).sum ≤ 8) (hdg : decode cc pc = .ok (.invokestatic idx, 3)) (hst : st0 = As.reverse ++ st)
    (kk : True → VJ L w X nL t r M1 M2 lv st (pc + 3)) : VJ L w X nL t r M1 M lv st0 pc :=
  vj_callS G hC q1 cq.1 cq.2.1 cq.2.2.1 cq.2.2.2 hn hf hlo hW hdg hst kk
theorem vj_callV1 (G : Gc L w X own cc nL fr lo) {y : MethodName} {code : ByteArray} {maxL : Nat} {ret2 : Option FieldType} {f2 l2 idx k ci : Nat} {As : List Value} {r1 : Int} {M2 : Mm} {C : String} {T : u_T} {N n : Nat}
    (hC : Ct L w y code maxL ret2 f2 l2 1 (.ref (wa w k) :: As) M r1 M2) (hk : lk L k = (4, ci, 0)) (hc : (lC L)[ci]? = some (C, T, N)) (hy : y.cls = C) (q1 : Cond.methodLink own idx y ∈ ALL) (cq : cqV y code maxL ret2 n) (hn : As.length = n)
    (hf : f2 + 1 ≤ fr) (hlo : 8 + (maxL + 11) + l2 ≤ lo) (hW : (st.map fun v => v.category).sum ≤ 8) (hdg : decode cc pc = .ok (.invokevirtual idx, 3)) (hst : st0 = As.reverse ++ .ref (wa w k) :: st)
    (kk : inR r1 → VJ L w X nL t r M1 M2 lv (.int (i32 r1) :: st) (pc + 3)) : VJ L w X nL t r M1 M lv st0 pc :=
  vj_callV G hC hk hc hy q1 cq.1 (by rw [← hy]; exact cq.2.1) (by rw [← hy]; exact cq.2.2.1) cq.2.2.2.1 cq.2.2.2.2 hn hf hlo hW hdg hst kk
theorem vj_callS1 (G : Gc L w X own cc nL fr lo) {y : MethodName} {code : ByteArray} {maxL : Nat} {ret2 : Option FieldType} {f2 l2 idx : Nat} {As : List Value} {r1 : Int} {M2 : Mm} {n : Nat}
    (hC : Ct L w y code maxL ret2 f2 l2 1 As M r1 M2) (q1 : Cond.methodLink own idx y ∈ ALL) (cq : cqS y code maxL ret2 n) (hn : As.length = n)
    (hf : f2 + 1 ≤ fr) (hlo : 8 + (maxL + 11) + l2 ≤ lo) (hW : (st.map fun v => v.category).sum ≤ 8) (hdg : decode cc pc = .ok (.invokestatic idx, 3)) (hst : st0 = As.reverse ++ st)
    (kk : inR r1 → VJ L w X nL t r M1 M2 lv (.int (i32 r1) :: st) (pc + 3)) : VJ L w X nL t r M1 M lv st0 pc :=
  vj_callS G hC q1 cq.1 cq.2.1 cq.2.2.1 cq.2.2.2 hn hf hlo hW hdg hst kk
theorem vj_callV2 (G : Gc L w X own cc nL fr lo) {y : MethodName} {code : ByteArray} {maxL : Nat} {ret2 : Option FieldType} {f2 l2 idx k ci : Nat} {As : List Value} {r1 : Int} {M2 : Mm} {C : String} {T : u_T} {N n : Nat}
    (hC : Ct L w y code maxL ret2 f2 l2 2 (.ref (wa w k) :: As) M r1 M2) (hk : lk L k = (4, ci, 0)) (hc : (lC L)[ci]? = some (C, T, N)) (hy : y.cls = C) (q1 : Cond.methodLink own idx y ∈ ALL) (cq : cqV y code maxL ret2 n) (hn : As.length = n)
    (hf : f2 + 1 ≤ fr) (hlo : 8 + (maxL + 11) + l2 ≤ lo) (hW : (st.map fun v => v.category).sum ≤ 8) (hdg : decode cc pc = .ok (.invokevirtual idx, 3)) (hst : st0 = As.reverse ++ .ref (wa w k) :: st)
    (kk : in64 r1 → VJ L w X nL t r M1 M2 lv (.long (i64 r1) :: st) (pc + 3)) : VJ L w X nL t r M1 M lv st0 pc :=
  vj_callV G hC hk hc hy q1 cq.1 (by rw [← hy]; exact cq.2.1) (by rw [← hy]; exact cq.2.2.1) cq.2.2.2.1 cq.2.2.2.2 hn hf hlo hW hdg hst kk
theorem vj_callS2 (G : Gc L w X own cc nL fr lo) {y : MethodName} {code : ByteArray} {maxL : Nat} {ret2 : Option FieldType} {f2 l2 idx : Nat} {As : List Value} {r1 : Int} {M2 : Mm} {n : Nat}
    (hC : Ct L w y code maxL ret2 f2 l2 2 As M r1 M2) (q1 : Cond.methodLink own idx y ∈ ALL) (cq : cqS y code maxL ret2 n) (hn : As.length = n)
    (hf : f2 + 1 ≤ fr) (hlo : 8 + (maxL + 11) + l2 ≤ lo) (hW : (st.map fun v => v.category).sum ≤ 8) (hdg : decode cc pc = .ok (.invokestatic idx, 3)) (hst : st0 = As.reverse ++ st)
    (kk : in64 r1 → VJ L w X nL t r M1 M2 lv (.long (i64 r1) :: st) (pc + 3)) : VJ L w X nL t r M1 M lv st0 pc :=
  vj_callS G hC q1 cq.1 cq.2.1 cq.2.2.1 cq.2.2.2 hn hf hlo hW hdg hst kk
theorem vj_callV3 (G : Gc L w X own cc nL fr lo) {y : MethodName} {code : ByteArray} {maxL : Nat} {ret2 : Option FieldType} {f2 l2 idx k ci : Nat} {As : List Value} {r1 : Int} {M2 : Mm} {C : String} {T : u_T} {N n : Nat}
    (hC : Ct L w y code maxL ret2 f2 l2 3 (.ref (wa w k) :: As) M r1 M2) (hk : lk L k = (4, ci, 0)) (hc : (lC L)[ci]? = some (C, T, N)) (hy : y.cls = C) (q1 : Cond.methodLink own idx y ∈ ALL) (cq : cqV y code maxL ret2 n) (hn : As.length = n)
    (hf : f2 + 1 ≤ fr) (hlo : 8 + (maxL + 11) + l2 ≤ lo) (hW : (st.map fun v => v.category).sum ≤ 8) (hdg : decode cc pc = .ok (.invokevirtual idx, 3)) (hst : st0 = As.reverse ++ .ref (wa w k) :: st)
    (kk : inB r1 → VJ L w X nL t r M1 M2 lv (.int (i32 r1) :: st) (pc + 3)) : VJ L w X nL t r M1 M lv st0 pc :=
  vj_callV G hC hk hc hy q1 cq.1 (by rw [← hy]; exact cq.2.1) (by rw [← hy]; exact cq.2.2.1) cq.2.2.2.1 cq.2.2.2.2 hn hf hlo hW hdg hst kk
theorem vj_callS3 (G : Gc L w X own cc nL fr lo) {y : MethodName} {code : ByteArray} {maxL : Nat} {ret2 : Option FieldType} {f2 l2 idx : Nat} {As : List Value} {r1 : Int} {M2 : Mm} {n : Nat}
    (hC : Ct L w y code maxL ret2 f2 l2 3 As M r1 M2) (q1 : Cond.methodLink own idx y ∈ ALL) (cq : cqS y code maxL ret2 n) (hn : As.length = n)
    (hf : f2 + 1 ≤ fr) (hlo : 8 + (maxL + 11) + l2 ≤ lo) (hW : (st.map fun v => v.category).sum ≤ 8) (hdg : decode cc pc = .ok (.invokestatic idx, 3)) (hst : st0 = As.reverse ++ st)
    (kk : inB r1 → VJ L w X nL t r M1 M2 lv (.int (i32 r1) :: st) (pc + 3)) : VJ L w X nL t r M1 M lv st0 pc :=
  vj_callS G hC q1 cq.1 cq.2.1 cq.2.2.1 cq.2.2.2 hn hf hlo hW hdg hst kk
theorem vj_callV4 (G : Gc L w X own cc nL fr lo) {y : MethodName} {code : ByteArray} {maxL : Nat} {ret2 : Option FieldType} {f2 l2 idx k ci : Nat} {As : List Value} {r1 : Int} {M2 : Mm} {C : String} {T : u_T} {N n : Nat}
    (hC : Ct L w y code maxL ret2 f2 l2 4 (.ref (wa w k) :: As) M r1 M2) (hk : lk L k = (4, ci, 0)) (hc : (lC L)[ci]? = some (C, T, N)) (hy : y.cls = C) (q1 : Cond.methodLink own idx y ∈ ALL) (cq : cqV y code maxL ret2 n) (hn : As.length = n)
    (hf : f2 + 1 ≤ fr) (hlo : 8 + (maxL + 11) + l2 ≤ lo) (hW : (st.map fun v => v.category).sum ≤ 8) (hdg : decode cc pc = .ok (.invokevirtual idx, 3)) (hst : st0 = As.reverse ++ .ref (wa w k) :: st)
    (kk : 0 ≤ r1 ∧ r1 < 7 → VJ L w X nL t r M1 M2 lv (.ref (ws9 w r1.toNat) :: st) (pc + 3)) : VJ L w X nL t r M1 M lv st0 pc :=
  vj_callV G hC hk hc hy q1 cq.1 (by rw [← hy]; exact cq.2.1) (by rw [← hy]; exact cq.2.2.1) cq.2.2.2.1 cq.2.2.2.2 hn hf hlo hW hdg hst kk
theorem vj_callS4 (G : Gc L w X own cc nL fr lo) {y : MethodName} {code : ByteArray} {maxL : Nat} {ret2 : Option FieldType} {f2 l2 idx : Nat} {As : List Value} {r1 : Int} {M2 : Mm} {n : Nat}
    (hC : Ct L w y code maxL ret2 f2 l2 4 As M r1 M2) (q1 : Cond.methodLink own idx y ∈ ALL) (cq : cqS y code maxL ret2 n) (hn : As.length = n)
    (hf : f2 + 1 ≤ fr) (hlo : 8 + (maxL + 11) + l2 ≤ lo) (hW : (st.map fun v => v.category).sum ≤ 8) (hdg : decode cc pc = .ok (.invokestatic idx, 3)) (hst : st0 = As.reverse ++ st)
    (kk : 0 ≤ r1 ∧ r1 < 7 → VJ L w X nL t r M1 M2 lv (.ref (ws9 w r1.toNat) :: st) (pc + 3)) : VJ L w X nL t r M1 M lv st0 pc :=
  vj_callS G hC q1 cq.1 cq.2.1 cq.2.2.1 cq.2.2.2 hn hf hlo hW hdg hst kk
end MORE
