/-! Worlds by a layout: a cell has a number; what it is its row of the layout says; what it holds is a row of the memory. -/
/-- a world: its classes' numbers, the array classes, the addresses, how many things have come, the texts' addresses; a layout: the classes; a cell's row (kind, a number, a number); the fields of a class's objects; the cell of the row of things that come one by one; what else is known of the state -/
abbrev Wd : Type := va_G × (Nat → ClassId) × (Nat → Nat) × Int × (Nat → Nat) × (Nat → Int) × (Nat → Int)
abbrev Lay : Type := (List vw_C) × (Nat → Nat × Nat × Nat) × (Nat → List (Nat × Nat)) × Nat × (Wd → State → Prop) × (Wd → Nat → Prop)
abbrev wD (w : Wd) : va_G := w.1
abbrev wT (w : Wd) : Nat → ClassId := w.2.1
abbrev wa (w : Wd) : Nat → Nat := w.2.2.1
abbrev wn (w : Wd) : Int := w.2.2.2.1
abbrev ws9 (w : Wd) : Nat → Nat := w.2.2.2.2.1
abbrev wK (w : Wd) : Nat → Int := w.2.2.2.2.2.1
abbrev wF (w : Wd) : Nat → Int := w.2.2.2.2.2.2
abbrev lC (L : Lay) : List vw_C := L.1
abbrev lk (L : Lay) : Nat → Nat × Nat × Nat := L.2.1
abbrev lf (L : Lay) : Nat → List (Nat × Nat) := L.2.2.1
abbrev lh (L : Lay) : Nat := L.2.2.2.1
abbrev lX (L : Lay) : Wd → State → Prop := L.2.2.2.2.1
abbrev lz (L : Lay) : Wd → Nat → Prop := L.2.2.2.2.2
def fv (a : Nat → Nat) (r : Nat → Int) (j : Nat) (c : Nat × Nat) : Value := if c.1 = 1 then .ref (a c.2) else if c.1 = 2 then .long (i64 (r j)) else if c.1 = 4 then .null else .int (i32 (r j))
def fvs (a : Nat → Nat) (r : Nat → Int) (fl : List (Nat × Nat)) : List Value := fl.mapIdx (fun j c => fv a r j c)
def eO (L : Lay) (w : Wd) (M : Mm) (k : Nat) : va_E :=
  match (lk L k).1 with
  | 0 => .inl (wT w 0, (lk L k).2.1, .inl (fun j => i32 (M k j)))
  | 1 => .inl (wT w 1, (lk L k).2.1, .inl (fun j => i32 (M k j)))
  | 2 => .inl (wT w 2, (lk L k).2.1, .inr (.inl (fun j => i64 (M k j))))
  | 3 => .inl (wT w 3, (lk L k).2.1, .inl (fun j => i32 (M k j)))
  | 4 => .inr ((lk L k).2.1, fvs (wa w) (M k) (lf L (lk L k).2.1))
  | 5 => .inl (wT w 4, (lk L k).2.1, .inr (.inr (.inr (.inr (fun j => some (wa w ((lk L k).2.2 + j)))))))
  | 6 => .inl (wT w 5, (lk L k).2.1, .inr (.inr (.inr (.inr (fun j => some (wa w ((lk L k).2.2 + j)))))))
  | 7 => .inl (wT w 6, (lk L k).2.1, .inr (.inr (.inr (.inr (fun j => if (j : Int) < wn w then some (wa w ((lk L k).2.2 + j)) else none)))))
  | _ => .inr ((wK w (lk L k).2.1).toNat, [.int (i32 ((lk L k).2.1 : Int)), .int (i32 (wF w (lk L k).2.1)), .ref (wa w (lk L k).2.2)])
/-- which cells there are -/
def pr (L : Lay) (w : Wd) (k : Nat) : Prop := (lk L k).1 ≠ 9 ∧ ((lk L k).1 = 8 → ((lk L k).2.1 : Int) < wn w)
def rT (t : Nat) (x : Int) : Prop := match t with
  | 2 => in64 x
  | 3 => inB x
  | _ => inR x
/-- what a place may hold: 2 long, 3 yes or no, else int -/
def tO (L : Lay) (k j : Nat) : Nat := match (lk L k).1 with
  | 2 => 2
  | 3 => 3
  | 4 => (((lf L (lk L k).2.1)[j]?).getD (0, 0)).1
  | _ => 0
def Rp (L : Lay) (w : Wd) (M : Mm) (H : Heap) : Prop := (∀ k, pr L w k → va_at (wD w) (lC L) (wa w k, eO L w M k) H) ∧ (∀ k j, rT (tO L k j) (M k j)) ∧ M (lh L) 0 = wn w ∧ M 900 = wK w ∧ M 901 = wF w ∧ lz L w H.size
def Aw (L : Lay) (w : Wd) : Nat → Prop := fun q => ∃ k, pr L w k ∧ q = wa w k
def ij (L : Lay) (w : Wd) : Prop := ∀ k k', pr L w k → pr L w k' → wa w k = wa w k' → k = k'
def tys (w : Wd) : List (ClassId × FieldType) := [(wT w 0, .int), (wT w 1, .byte), (wT w 2, .long), (wT w 3, .boolean), (wT w 4, .array .int), (wT w 5, .array .long), (wT w 6, .object "WhoRules$Holder")]
theorem rp_ir {L : Lay} {w : Wd} {M : Mm} {H : Heap} (h : Rp L w M H) {k j : Nat} (ht : tO L k j ≠ 2) : inR (M k j) := by
  have h1 := h.2.1 k j
  unfold rT at h1
  split at h1
  · contradiction
  · exact ir_b h1
  · exact h1
theorem rp_lr {L : Lay} {w : Wd} {M : Mm} {H : Heap} (h : Rp L w M H) {k j : Nat} (ht : tO L k j = 2) : in64 (M k j) := by
  have h1 := h.2.1 k j
  rw [ht] at h1
  exact h1
theorem rp_br {L : Lay} {w : Wd} {M : Mm} {H : Heap} (h : Rp L w M H) {k j : Nat} (ht : tO L k j = 3) : inB (M k j) := by
  have h1 := h.2.1 k j
  rw [ht] at h1
  exact h1
/-- a cell's row becomes another -/
theorem rp_row {L : Lay} {w : Wd} {M : Mm} {H H1 : Heap} {k : Nat} {f : Nat → Int} (h : Rp L w M H) (hij : ij L w) (hk : (lk L k).1 ≤ 4) (h9 : k < 900) (hh : k ≠ lh L) (he : va_at (wD w) (lC L) (wa w k, eO L w (mrow M k f) k) H1) (hz : H1.size = H.size) (oq : ∀ q : Nat, q ≠ wa w k → H1[q]? = H[q]?) (hr : ∀ j, rT (tO L k j) (f j)) : Rp L w (mrow M k f) H1 := by
  have hp : pr L w k := ⟨by omega, fun h8 => by omega⟩
  refine ⟨fun k' hk' => ?_, fun k' j => ?_, ?_, ?_, ?_, by rw [hz]; exact h.2.2.2.2.2⟩
  · by_cases e : k' = k
    · subst e; exact he
    · have hne : wa w k' ≠ wa w k := fun q => e (hij k' k hk' hp q)
      have e1 : eO L w (mrow M k f) k' = eO L w M k' := by
        unfold eO
        rw [mr_ne e]
      rw [e1]
      exact (h.1 k' hk').kept (oq _ hne)
  · by_cases e : k' = k
    · subst e; rw [mr_eq]; exact hr j
    · rw [mr_ne e]; exact h.2.1 k' j
  · rw [mr_ne (fun q => hh q.symm)]; exact h.2.2.1
  · rw [mr_ne (show (900 : Nat) ≠ k by omega)]; exact h.2.2.2.1
  · rw [mr_ne (show (901 : Nat) ≠ k by omega)]; exact h.2.2.2.2.1
/-- what a call's end says -/
def oV (t : Nat) (w : Wd) (r : Int) : Option Value := match t with
  | 0 => none
  | 2 => some (.long (i64 r))
  | 4 => some (.ref (ws9 w r.toNat))
  | 5 => some (if r < 0 then .null else .ref (wa w r.toNat))
  | _ => some (.int (i32 r))
def oR (t : Nat) (r : Int) : Prop := match t with
  | 0 => True
  | 2 => in64 r
  | 3 => inB r
  | 4 => 0 ≤ r ∧ r < 7
  | 5 => inR r
  | _ => inR r

def Kst (L : Lay) : Prop := ∀ (w : Wd) (s U : State), lX L w s → (∀ a : Nat, a < s.heap.size → ¬ Aw L w a → U.heap[a]? = s.heap[a]?) → (s.WarmedH U.vm ∨ U.vm = s.vm) → lX L w U
abbrev Bx (L : Lay) (w : Wd) (M : Mm) : State → Prop := fun U => Rp L w M U.heap ∧ va_K (wD w) (lC L) (tys w) U ∧ lX L w U
abbrev Qx (L : Lay) (w : Wd) (t : Nat) (r : Int) (M1 : Mm) : Array Value → State → Outcome → State → Prop := fun _ st oc u => oc = .returned (oV t w r) ∧ oR t r ∧ Rp L w M1 u.heap ∧ va_F (Aw L w) st u
/-- a method's contract: from the memory M it answers r and leaves the memory M1 -/
def Ct (L : Lay) (w : Wd) (y : MethodName) (code : ByteArray) (maxL : Nat) (ret : Option FieldType) (fr lo t : Nat) (As : List Value) (M : Mm) (r : Int) (M1 : Mm) : Prop :=
  ∀ l : Launch, Met l y (wsOf y code maxL ret) { frames := fr, cells := 0, slots := 0, locals := lo } (va_Pc As (Bx L w M)) (Qx L w t r M1) 0 0 (Aw L w)
abbrev Cx : Type := (Program × Launch × Env × Room) × (State × MethodId × Array Value × List Frame) × (Method × Code × Nat × Nat × (Nat → Prop) × (Nat → Int → Mm → State → Prop))
abbrev xp (X : Cx) : Program := X.1.1
abbrev xl (X : Cx) : Launch := X.1.2.1
abbrev xe (X : Cx) : Env := X.1.2.2.1
abbrev xR (X : Cx) : Room := X.1.2.2.2
abbrev xs (X : Cx) : State := X.2.1.1
abbrev xm (X : Cx) : MethodId := X.2.1.2.1
abbrev xa (X : Cx) : Array Value := X.2.1.2.2.1
abbrev xb (X : Cx) : List Frame := X.2.1.2.2.2
abbrev xM (X : Cx) : Method := X.2.2.1
abbrev xc (X : Cx) : Code := X.2.2.2.1
abbrev xcn (X : Cx) : Nat := X.2.2.2.2.1
abbrev xsn (X : Cx) : Nat := X.2.2.2.2.2.1
abbrev xA (X : Cx) : Nat → Prop := X.2.2.2.2.2.2.1
abbrev xQ (X : Cx) : Nat → Int → Mm → State → Prop := X.2.2.2.2.2.2.2
/-- what a walk stands on: the machine, the words, the world's classes; what it may change; its room -/
def Gc (L : Lay) (w : Wd) (X : Cx) (own : String) (cc : ByteArray) (nL fr lo : Nat) : Prop :=
  (xp X).tables.exec = Jvm.exec ∧ (xc X).code = cc ∧ (xc X).maxLocals = nL ∧ (xs X).vm.findClass own = some (xm X).cls ∧ (∀ c ∈ ALL, c.before (xa X) (xs X) = true) ∧ va_K (wD w) (lC L) (tys w) (xs X) ∧ lX L w (xs X) ∧ (xM X).locks = false ∧ ((∀ q, Aw L w q → xA X q) ∧ (∀ q, q < (xs X).heap.size → xA X q → Aw L w q) ∧ xcn X ≤ (xR X).cells ∧ xsn X ≤ (xR X).slots) ∧ ij L w ∧ Kst L ∧ fr ≤ (xR X).frames ∧ lo ≤ (xR X).locals
/-- the walk of a whole method that makes nothing: its end is the contract's -/
def Gx (L : Lay) (w : Wd) (X : Cx) (own : String) (cc : ByteArray) (nL fr lo : Nat) (ret : Option FieldType) : Prop :=
  Gc L w X own cc nL fr lo ∧ (xM X).sig.returnType = ret ∧ xA X = Aw L w ∧ xQ X = (fun t r M1 => MQ (xb X) (Qx L w t r M1) (xa X) (xs X) (xcn X) (xsn X) (xA X))
def VJ (L : Lay) (w : Wd) (X : Cx) (nL t : Nat) (r : Int) (M1 M : Mm) (lv : List (Nat × Value)) (st : List Value) (pc : Nat) : Prop :=
  ∀ (H : Heap) (locs : List Loc) (ls : Array Slot), Rp L w M H → va_S (xA X) (xs X).heap H locs → lv_has ls nL lv → W (xp X) (xl X) (xe X) (xR X) (xs X) (xm X) (xa X) (xb X) (xM X) (xc X) H locs (xcn X) (xsn X) (xQ X t r M1) (F0 (xm X) pc ls st)
theorem lt_all {m1 : List Cond} {y : MethodName} {code : ByteArray} {maxL : Nat} {ret : Option FieldType} (h : ∀ c ∈ m1, c ∈ ALL) (hc : Cond.code y code maxL ret ∈ ALL) : GoodIn ALL (m1 ++ wsOf y code maxL ret) := by
  intro c hc1
  have h1 : c ∈ ALL := by
    rcases List.mem_append.mp hc1 with q | q
    · exact h c q
    · rcases List.mem_cons.mp q with rfl | q
      · exact hc
      · exact q
  exact ⟨h1, all_good h1⟩
/-- a contract out of the walk of its body -/
theorem Ct.of {L : Lay} {w : Wd} {y : MethodName} {code : ByteArray} {maxL : Nat} {ret : Option FieldType} {fr lo t : Nat} {As : List Value} {M : Mm} {r : Int} {M1 : Mm} (hij : ij L w) (hK : Kst L) (hy : plainName y.cls = true) (hlen : (lg_sl As).length ≤ maxL)
    (body : ∀ X : Cx, Gx L w X y.cls code maxL fr lo ret → VJ L w X maxL t r M1 M (lv_args 0 As) [] 0) : Ct L w y code maxL ret fr lo t As M r M1 := by
  intro l
  refine Met.ofW (cc := code) (maxL := maxL) (ret := ret) hy rfl ?_
  intro p e s m args below meth c s₁ B hml hv
  obtain ⟨rfl, hP, hKs, hXs⟩ := hv
  have hts := atoms_spec (ws := wsOf y code maxL ret) B.pre
  have hl := lv_entry As (n := maxL) hlen
  rw [lg_entry_eq]
  exact body ((p, l, e, _), (s, m, As.toArray, below), (meth, c, 0, 0, Aw L w, fun t r M1 => MQ below (Qx L w t r M1) As.toArray s 0 0 (Aw L w))) ⟨⟨B.exec, B.bytes, hml, findClass_of_methodNamed B.named, fun c hc => hts c (List.mem_cons_of_mem _ hc), hKs, hXs, B.notSynchronized, ⟨fun _ h => h, fun _ _ h => h, Nat.zero_le _, Nat.zero_le _⟩, hij, hK, Nat.le_refl _, Nat.le_refl _⟩, B.returns, rfl, rfl⟩ s.heap [] _ hP va_S.rf hl
theorem Ct.end {L : Lay} {w : Wd} {X : Cx} {t : Nat} {r : Int} {M : Mm} {H : Heap} {locs : List Loc} {o : Option Value} (ho : o = oV t w r) (hr : oR t r) (hP : Rp L w M H) (hS : va_S (Aw L w) (xs X).heap H locs) : ∀ u : State, u.heap = H → (xs X).WarmedH u.vm → Qx L w t r M (xa X) (xs X) (.returned o) u := by
  intro u hu _
  refine ⟨by rw [ho], hr, by rw [hu]; exact hP, hS.F hu⟩
