/-! The instruction multianewarray, of two dimensions, out of the words of its own meaning (Jvm.Op.multianewarray). -/
/-- what the places of the outer row hold when i inner rows are made; h is its address -/
def muF (h i : Nat) : Nat → Value := fun j => if j < i then .ref (h + 1 + j) else .null
theorem muF_step (h i : Nat) : updV (muF h i) i (.ref (h + 1 + i)) = muF h (i + 1) := by
  funext j
  unfold updV muF
  by_cases e : j = i
  · subst e; rw [if_pos rfl, if_pos (Nat.lt_succ_self _)]
  · rw [if_neg e]
    by_cases q : j < i
    · rw [if_pos q, if_pos (by omega)]
    · rw [if_neg q, if_neg (by omega)]
theorem arrV_cg {cA : ClassId} {N : Nat} {f g : Nat → Value} (h : ∀ j, j < N → f j = g j) : arrV cA N f = arrV cA N g := by
  unfold arrV
  congr 2
  funext j
  exact h j j.isLt
/-- the state when i inner rows are made -/
def muS (S : State) (cA cB : ClassId) (N K : Nat) (v : Value) : Nat → State
  | 0 => S.pushCell (arrV cA N (muF S.heap.size 0))
  | i + 1 => ((muS S cA cB N K v i).pushCell (arrV cB K fun _ => v)).setCell S.heap.size (arrV cA N (muF S.heap.size (i + 1)))
theorem muS_vm (S : State) (cA cB : ClassId) (N K : Nat) (v : Value) : ∀ i, (muS S cA cB N K v i).vm = S.vm
  | 0 => rfl
  | i + 1 => muS_vm S cA cB N K v i
theorem muS_top (S : State) (f : JFrame) (cA cB : ClassId) (N K : Nat) (v : Value) : ∀ i, muS (S.setTop f) cA cB N K v i = (muS S cA cB N K v i).setTop f
  | 0 => rfl
  | i + 1 => by
    show ((muS (S.setTop f) cA cB N K v i).pushCell _).setCell S.heap.size _ = _
    rw [muS_top S f cA cB N K v i]
    rfl
theorem muS_used (S : State) (cA cB : ClassId) (N K : Nat) (v : Value) : ∀ i, (muS S cA cB N K v i).slotsUsed = S.slotsUsed + N + i * K
  | 0 => by
    show S.slotsUsed + (arrV cA N _).slots.size = _
    rw [arrV_size, Nat.zero_mul]
    rfl
  | i + 1 => by
    show (muS S cA cB N K v i).slotsUsed + (arrV cB K _).slots.size = _
    rw [muS_used S cA cB N K v i, arrV_size, Nat.succ_mul]
    omega
theorem muS_size (S : State) (cA cB : ClassId) (N K : Nat) (v : Value) : ∀ i, (muS S cA cB N K v i).heap.size = S.heap.size + 1 + i
  | 0 => Array.size_push _
  | i + 1 => by
    show (((muS S cA cB N K v i).heap.push _).setIfInBounds _ _).size = _
    rw [Array.size_setIfInBounds, Array.size_push, muS_size S cA cB N K v i]
    rfl
theorem mu_push {S : State} {c : Cell} {q n : Nat} (e : S.heap.size = n) (hq : q < n) : (S.pushCell c).heap[q]? = S.heap[q]? := State.heap_pushCell_of_lt _ _ (e ▸ hq)
theorem muS_out (S : State) (cA cB : ClassId) (N K : Nat) (v : Value) : ∀ i, (muS S cA cB N K v i).heap[S.heap.size]? = some (arrV cA N (muF S.heap.size i))
  | 0 => State.heap_pushCell_size ..
  | i + 1 => State.heap_setCell_self (c := arrV cA N (muF S.heap.size i)) ((mu_push (muS_size S cA cB N K v i) (by omega)).trans (muS_out S cA cB N K v i))
theorem muS_old (S : State) (cA cB : ClassId) (N K : Nat) (v : Value) {q : Nat} (hq : q < S.heap.size) : ∀ i, (muS S cA cB N K v i).heap[q]? = S.heap[q]?
  | 0 => State.heap_pushCell_of_lt _ _ hq
  | i + 1 => (State.heap_setCell_other (Nat.ne_of_gt hq)).trans ((mu_push (muS_size S cA cB N K v i) (by omega)).trans (muS_old S cA cB N K v hq i))
theorem muS_in (S : State) (cA cB : ClassId) (N K : Nat) (v : Value) {j : Nat} : ∀ i, j < i → (muS S cA cB N K v i).heap[S.heap.size + 1 + j]? = some (arrV cB K fun _ => v)
  | 0, h => absurd h (Nat.not_lt_zero _)
  | i + 1, h => by
    have ne : S.heap.size ≠ S.heap.size + 1 + j := by omega
    refine (State.heap_setCell_other ne).trans ?_
    by_cases e : j = i
    · subst e
      rw [← muS_size S cA cB N K v j]
      exact State.heap_pushCell_size ..
    · exact (mu_push (muS_size S cA cB N K v i) (by omega)).trans (muS_in S cA cB N K v i (by omega))
/-- arrays over arrays, by their name -/
theorem mu_over {args : Array Value} {first s : State} {o : Option Outcome} {idx : List Nat} {t : FieldType} (h : (Cond.arrayOver (.array t)).holds args first o s idx = true) :
    ∃ cB cA k, s.vm.findClass (FieldType.array t).toString = some cB ∧ s.vm.findClass ("[" ++ (FieldType.array t).toString) = some cA ∧ s.vm.classes[cA]? = some k ∧ k.kind = .array cB (.array t) := by
  simp only [Cond.holds, Cond.value, beq_iff_eq] at h
  obtain ⟨cB, hB⟩ : ∃ cB, s.vm.findClass (FieldType.array t).toString = some cB := by
    cases q : s.vm.findClass (FieldType.array t).toString with
    | some b => exact ⟨b, rfl⟩
    | none => rw [q] at h; simp at h
  rw [hB] at h
  simp only [Option.bind_some, Option.bind_eq_some_iff, Option.map_eq_some_iff] at h
  obtain ⟨cA, hf, k, hk, hb⟩ := h
  have hg := (Array.findIdx?_eq_some_iff_getElem.mp hf).2.1
  rw [(Array.getElem?_eq_some_iff.mp hk).2] at hg
  have key : ∃ a b, k.kind = .array a b ∧ a = cB ∧ b = .array t ∧ s.vm.findClass ("[" ++ (FieldType.array t).toString) = some cA := by
    generalize hkk : k.kind = z at hb hg
    cases z <;> simp at hb hg
    exact ⟨_, _, rfl, hg, hb.1, hb.2⟩
  obtain ⟨a, b, e1, rfl, rfl, e2⟩ := key
  exact ⟨a, cA, k, hB, e2, hk, e1⟩
section
variable {E : CtlPost} {e : Env} {d : Bool} {acts : List Action} {u : State}
theorem mu_new {c comp : ClassId} {kc : Class} {ty : FieldType} {N : Nat} {v : Value} (hk : u.vm.classes[c]? = some kc) (hkk : kc.kind = .array comp ty) (h1 : N ≤ e.platform.arrayLengthLimit) (h2 : N * componentBytes ty ≤ e.platform.maxHeapBytes)
    (h3 : u.heap.size < e.platform.maxCells) (h4 : u.slotsUsed + N ≤ e.platform.maxSlots) (hf : fits ty v = true) {Q : Addr → Pre} (hq : ∀ acts', Q u.heap.size d acts' (u.pushCell (arrV c N fun _ => v))) : wp (Jvm.newArray c N v) Q E e d acts u :=
  W.newArray_of hk hkk (Nat.not_lt.mpr h1) (Nat.not_lt.mpr h2) h3 h4 hf fun acts' => by
    have q := hq acts'
    rw [← arrV_new] at q
    exact q
theorem mu_row {c comp : ClassId} {kc : Class} {ty : FieldType} {k : Int32} {K : Nat} (hk : u.vm.classes[c]? = some kc) (hkk : kc.kind = .array comp ty) (hn : ¬ k < 0) (hK : k.toNatClampNeg = K) (h1 : K ≤ e.platform.arrayLengthLimit) (h2 : K * componentBytes ty ≤ e.platform.maxHeapBytes)
    (h3 : u.heap.size < e.platform.maxCells) (h4 : u.slotsUsed + K ≤ e.platform.maxSlots) (hf : fits ty (defaultValue ty) = true) {Q : Addr → Pre} (hq : ∀ acts', Q u.heap.size d acts' (u.pushCell (arrV c K fun _ => defaultValue ty))) : wp (multianewarray.make c [k]) Q E e d acts u := by
  subst hK
  unfold multianewarray.make
  simp only [wp_bind', hn, if_false, wp_pure', W.theClass, hk, hkk, Option.some.injEq, exists_eq_left']
  exact mu_new hk hkk h1 h2 h3 h4 hf hq
theorem mu_loop {S : State} {cA cB : ClassId} {N K : Nat} {v : Value} {f : Nat → PUnit → Sem (ForInStep PUnit)} {Q : PUnit → Pre}
    (hf : ∀ (i : Nat) (d : Bool) (acts : List Action) (Q' : ForInStep PUnit → Pre), i < N → (∀ d' acts', Q' (.yield PUnit.unit) d' acts' (muS S cA cB N K v (i + 1))) → wp (f i PUnit.unit) Q' E e d acts (muS S cA cB N K v i))
    (hq : ∀ d acts, Q PUnit.unit d acts (muS S cA cB N K v N)) : ∀ (r i : Nat) (d : Bool) (acts : List Action), i + r = N → wp (forIn (List.range' i r) PUnit.unit f) Q E e d acts (muS S cA cB N K v i)
  | 0, i, d, acts, h => by
    obtain rfl : i = N := h
    rw [List.range'_zero, List.forIn_nil, wp_pure']
    exact hq d acts
  | r + 1, i, d, acts, h => by
    rw [List.range'_succ, List.forIn_cons, wp_bind']
    exact hf i d acts _ (by omega) fun d' acts' => mu_loop hf hq r (i + 1) d' acts' (by omega)
theorem mu_ref {t : FieldType} {x : Value} (ht : t.isReference = true) (hx : x = .null ∨ ∃ a, x = .ref a) : fits t x = true := by
  cases t <;> first | (exact absurd ht (by decide)) | (rcases hx with rfl | ⟨a, rfl⟩ <;> rfl)
theorem mu_all {cA cB cc : ClassId} {kA kB : Class} {ty : FieldType} {n k : Int32} {N K : Nat} (hA : u.vm.classes[cA]? = some kA) (hkA : kA.kind = .array cB (.array ty)) (hB : u.vm.classes[cB]? = some kB) (hkB : kB.kind = .array cc ty)
    (hn : ¬ n < 0) (hk : ¬ k < 0) (hN : n.toNatClampNeg = N) (hK : k.toNatClampNeg = K) (h1 : N ≤ e.platform.arrayLengthLimit) (h2 : N * componentBytes (.array ty) ≤ e.platform.maxHeapBytes) (h3 : K ≤ e.platform.arrayLengthLimit) (h4 : K * componentBytes ty ≤ e.platform.maxHeapBytes)
    (h5 : u.heap.size + (1 + N) ≤ e.platform.maxCells) (h6 : u.slotsUsed + (N + N * K) ≤ e.platform.maxSlots) (hf : fits ty (defaultValue ty) = true)
    {Q : Addr → Pre} (hq : ∀ d' acts', Q u.heap.size d' acts' (muS u cA cB N K (defaultValue ty) N)) : wp (multianewarray.make cA [n, k]) Q E e d acts u := by
  subst hN
  have hno : ([k].find? (· < 0)) = none := by simp [hk]
  have h0 : arrV cA n.toNatClampNeg (fun _ => Value.null) = arrV cA n.toNatClampNeg (muF u.heap.size 0) := arrV_cg fun j _ => (if_neg (Nat.not_lt_zero j)).symm
  unfold multianewarray.make
  simp only [wp_bind', hn, if_false, wp_pure', W.theClass, hA, hkA, Option.some.injEq, exists_eq_left', hno, ite_self]
  refine mu_new hA hkA h1 h2 (by omega) (by omega) (mu_ref rfl (Or.inl rfl)) fun acts' => ?_
  rw [h0, Std.Legacy.Range.forIn_eq_forIn_range']
  have hs : ([:n.toNatClampNeg] : Std.Legacy.Range).size = n.toNatClampNeg := by simp [Std.Legacy.Range.size]
  rw [hs, wp_bind']
  refine mu_loop (S := u) (cA := cA) (cB := cB) (N := n.toNatClampNeg) (K := K) (v := defaultValue ty) (fun i d1 acts1 Q' hi hQ' => ?_) (fun d1 acts1 => ?_) n.toNatClampNeg 0 _ _ (Nat.zero_add _)
  case refine_2 =>
    try simp only [wp_pure']
    exact hq d1 acts1
  have hm : (i + 1) * K ≤ n.toNatClampNeg * K := Nat.mul_le_mul_right K hi
  rw [Nat.succ_mul] at hm
  have z1 := muS_size u cA cB n.toNatClampNeg K (defaultValue ty) i
  have z2 := muS_used u cA cB n.toNatClampNeg K (defaultValue ty) i
  have z3 := muS_vm u cA cB n.toNatClampNeg K (defaultValue ty) i
  have z4 := muS_out u cA cB n.toNatClampNeg K (defaultValue ty) i
  simp only [wp_bind']
  refine mu_row (by rw [z3]; exact hB) hkB hk hK h3 h4 (by omega) (by omega) hf fun acts2 => ?_
  simp only [wp_bind', W.writeLoc, wp_pure']
  refine ⟨arrV cA n.toNatClampNeg (muF u.heap.size i), (mu_push z1 (by omega)).trans z4, by simp [arrV], by rw [arrV_size]; exact hi, ?_, ?_⟩
  · have z5 : (muS u cA cB n.toNatClampNeg K (defaultValue ty) i).vm.classes[cA]? = some kA := by rw [z3]; exact hA
    simp [State.fitsSlot, State.slotType?, z5, hkA, arrV, mu_ref (t := .array ty) rfl (Or.inr ⟨_, rfl⟩)]
  · have q := hQ' d1 acts2
    rw [z1, arrV_store, muF_step]
    first | exact q | exact hQ' _ _
end
section
variable {p : Program} {l : Launch} {e : Env} {R : Room} {s : State} {m : MethodId} {args : Array Value} {below : List Frame} {meth : Method} {c : Code} {T : State} {locs : List Loc} {cells slots : Nat} {H : Heap} {Q : State → Prop}
theorem mu_stand (X : Stand p l e R s m args below meth c T locs cells slots) (cA cB : ClassId) (N K : Nat) (v : Value) : ∀ i, Stand p l e R s m args below meth c (muS T cA cB N K v i) locs (cells + (1 + i)) (slots + (N + i * K))
  | 0 => by
    have q := X.pushed (arrV cA N (muF T.heap.size 0))
    rw [arrV_size] at q
    rw [Nat.zero_mul]
    exact q
  | i + 1 => by
    have q := (mu_stand X cA cB N K v i).pushed (arrV cB K fun _ => v)
    rw [arrV_size] at q
    have r := q.stored ((mu_push (muS_size T cA cB N K v i) (by omega)).trans (muS_out T cA cB N K v i)) i (.ref (T.heap.size + 1 + i))
    rw [arrV_store, muF_step] at r
    have w := r.dropFresh fun x hx => by
      rw [List.mem_singleton.mp hx]
      exact X.heapGrown
    rw [Nat.succ_mul, show cells + (1 + (i + 1)) = cells + (1 + i) + 1 from by omega, show slots + (N + (i * K + K)) = slots + (N + i * K) + K from by omega]
    exact w
theorem multi_run {cc : ByteArray} (hexec : p.tables.exec = Jvm.exec) (hb : c.code = cc) {own : String} {index : Nat} {ty : FieldType} (hown : s.vm.findClass own = some m.cls) (hclink : (Cond.classLink own index ("[" ++ (FieldType.array ty).toString)).before args s = true) (hover : (Cond.arrayOver (.array ty)).before args s = true) (harr : (Cond.arrayClass ty).before args s = true)
    {g : JFrame} (hg : g.method = m) (hdg : decode cc g.pc = .ok (.multianewarray index 2, 4)) {n k : Int32} {N K : Nat} {rest : List Value} (hstack : g.stack = .int k :: .int n :: rest) (hn : ¬ n < 0) (hk : ¬ k < 0) (hN : n.toNatClampNeg = N) (hK : k.toNatClampNeg = K)
    (hb1 : N * 4 ≤ 536870912) (hb2 : K * componentBytes ty ≤ 536870912) (hb3 : K ≤ 536870912) (hdf : fits ty (defaultValue ty) = true) (hdd : (defaultValue ty).isDefault = true) (hcells : cells + (1 + N) ≤ R.cells) (hslots : slots + (N + N * K) ≤ R.slots) {h : Nat} (hh : H.size = h)
    (kk : ∀ (H' : Heap) (cA comp : ClassId), s.vm.findClass ("[" ++ (FieldType.array ty).toString) = some cA → s.vm.findClass (FieldType.array ty).toString = some comp → H'[h]? = some (arrV cA N (fun j => .ref (h + 1 + j))) → (∀ j : Nat, j < N → H'[h + 1 + j]? = some (arrV comp K (fun _ => defaultValue ty))) → H'.size = h + 1 + N → (∀ q : Nat, q < h → H'[q]? = H[q]?) →
      W p l e R s m args below meth c H' locs (cells + (1 + N)) (slots + (N + N * K)) Q { g with pc := g.pc + 4, stack := .ref h :: rest }) : W p l e R s m args below meth c H locs cells slots Q g := by
  intro T hT X
  subst hh; subst hT; subst hb; subst hg
  have hpl : e.platform.magicAccessors = ({} : Platform).magicAccessors := by rw [X.admits.platform]
  obtain ⟨cB, cA, kA, qB, qA, hA, hkA⟩ := mu_over hover
  obtain ⟨cB', kB, c1, qB', hB, hkB⟩ := Cond.arrayClass_spec harr
  obtain rfl : cB' = cB := Option.some.inj (qB'.symm.trans qB)
  obtain ⟨cA', qA', hcl⟩ := Cond.classLink_spec hown hclink e.platform hpl
  obtain rfl : cA' = cA := Option.some.inj (qA'.symm.trans qA)
  obtain ⟨gv, hw, -⟩ := State.classEntry (e := e) X.warmed hcl
  obtain ⟨V, hV⟩ : ∃ V, V = T.vm.noted g.method.cls index (.cls cA') := ⟨_, rfl⟩
  rw [← hV] at gv hw
  obtain ⟨kA1, hA1, eA⟩ := hw.alike.2.2 _ _ hA
  obtain ⟨kB1, hB1, eB⟩ := hw.alike.2.2 _ _ hB
  have hkA1 : kA1.kind = .array cB' (.array ty) := by rw [eA]; exact hkA
  have hkB1 : kB1.kind = .array c1 ty := by rw [eB]; exact hkB
  have XV := X.noted hw
  have XF := mu_stand XV cA' cB' N K (defaultValue ty) N
  obtain ⟨room1, room2⟩ := X.roomAbove hcells hslots
  obtain ⟨t, a1, b1⟩ := kk _ cA' cB' qA qB ((muS_out (T.setVm V) cA' cB' N K (defaultValue ty) N).trans (congrArg some (arrV_cg fun j hj => if_pos hj))) (fun j hj => muS_in (T.setVm V) cA' cB' N K (defaultValue ty) N hj)
    (muS_size (T.setVm V) cA' cB' N K (defaultValue ty) N) (fun q hq => muS_old (T.setVm V) cA' cB' N K (defaultValue ty) hq N) _ rfl XF
  refine ⟨t, ?_, b1⟩
  jvm_step X.here [hexec, hdg]
  simp only [multianewarray.sem, wp_bind', W.resolveClassAt_links (State.method?_setTop g X.here.top) gv]
  rw [W.popN, if_neg (by decide)]
  refine ⟨g, State.topJava?_setTop' (s := T.setVm V) g X.here.top, [.int n, .int k], rest, rfl, hstack, ?_⟩
  simp only [List.mapM_cons, List.mapM_nil, wp_bind', wp_pure']
  have lim := Launch.admits_arrayLengthLimit X.admits
  have byt := Launch.admits_maxHeapBytes X.admits
  have one : ((T.setTop g).setVm V).setTop { g with stack := rest } = (T.setVm V).setTop { g with stack := rest } := State.setTop_setTop (s := T.setVm V) ..
  rw [one]
  refine mu_all (u := (T.setVm V).setTop { g with stack := rest }) (N := N) (K := K) hA1 hkA1 hB1 hkB1 hn hk hN hK (by rw [lim]; omega) (by rw [byt]; exact hb1) (by rw [lim]; omega) (by rw [byt]; exact hb2) room1 room2 hdf fun d' acts' => ?_
  rw [muS_top]
  simp only [wp_bind', W.mark, W.pushRef, State.topJava?_setTop' _ XF.here.top, Option.some.injEq, exists_eq_left', State.setTop_setTop, State.heap_setTop]
  intro acts2
  simp [jvm, XF.here.top]
  exact a1
end
