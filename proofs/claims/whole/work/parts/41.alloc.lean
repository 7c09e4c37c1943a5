/-! Making cells: layouts that grow. -/
def xInc (X : Cx) (a b : Nat) : Cx := (X.1, X.2.1, (X.2.2.1, X.2.2.2.1, X.2.2.2.2.1 + a, X.2.2.2.2.2.1 + b, X.2.2.2.2.2.2.1, X.2.2.2.2.2.2.2))
/-- L' has the cells ks more -/
def Grow (L L' : Lay) (ks : List Nat) : Prop := lC L' = lC L ∧ lh L' = lh L ∧ (∀ k, k ∉ ks → lk L' k = lk L k) ∧ (∀ k ∈ ks, (lk L k).1 = 9) ∧ ∀ c, lf L' c = lf L c
theorem rT_0 (t : Nat) : rT t 0 := by
  unfold rT
  split
  · exact lr_i ir_0
  · exact Or.inl rfl
  · exact ir_0
theorem grow_rp {L L' : Lay} {w : Wd} {M : Mm} {H H1 : Heap} {ks : List Nat} (g : Grow L L' ks) (h : Rp L w M H) (hold : ∀ q : Nat, q < H.size → H1[q]? = H[q]?) (hnew : ∀ k ∈ ks, va_at (wD w) (lC L') (wa w k, eO L' w M k) H1) (h0 : ∀ k ∈ ks, ∀ j, M k j = 0) (hz : lz L' w H1.size) : Rp L' w M H1 := by
  obtain ⟨g1, g2, g3, g4, g5⟩ := g
  refine ⟨fun k hk => ?_, fun k j => ?_, by rw [g2]; exact h.2.2.1, h.2.2.2.1, h.2.2.2.2.1, hz⟩
  · by_cases e : k ∈ ks
    · exact hnew k e
    · have hp : pr L w k := by unfold pr at hk ⊢; rw [g3 k e] at hk; exact hk
      have e1 : eO L' w M k = eO L w M k := by unfold eO; rw [g3 k e]; simp only [g5]
      rw [e1, g1]
      exact (h.1 k hp).kept (hold _ (h.1 k hp).lt)
  · by_cases e : k ∈ ks
    · rw [h0 k e j]; exact rT_0 _
    · have e1 : tO L' k j = tO L k j := by unfold tO; rw [g3 k e]; simp only [g5]
      rw [e1]; exact h.2.1 k j
section ALLOC
variable {L L' : Lay} {w : Wd} {X : Cx} {own : String} {cc : ByteArray} {nL fr lo : Nat} {t : Nat} {r : Int} {M1 M : Mm} {lv : List (Nat × Value)} {st : List Value} {pc : Nat}
theorem s_push (hS : ∀ {H : Heap} {locs : List Loc}, va_S (xA X) (xs X).heap H locs → True) {H H1 : Heap} {locs : List Loc} (h : va_S (xA X) (xs X).heap H locs) (hz : H1.size = H.size + 1) (ho : ∀ q : Nat, q < H.size → H1[q]? = H[q]?) : va_S (xA X) (xs X).heap H1 locs :=
  ⟨Nat.le_trans h.1 (by omega), fun q h1 h2 => (ho q (Nat.lt_of_lt_of_le h1 h.1)).trans (h.2.1 q h1 h2), h.2.2⟩
theorem vj_cnewi (G : Gc L w X own cc nL fr lo) {k n b : Nat} (g : Grow L L' [k]) (hk : lk L' k = (0, n, b)) (hn : n < 100000) (ha : ∀ m, lz L w m → wa w k = m) (hz : ∀ m, lz L w m → lz L' w (m + 1)) (h0 : ∀ j, M k j = 0) (hq : Cond.arrayClass .int ∈ ALL) (hc : xcn X + 1 ≤ (xR X).cells) (hs : xsn X + n ≤ (xR X).slots) (hdg : decode cc pc = .ok (.newarray .int, 2)) (kk : VJ L' w (xInc X 1 n) nL t r M1 M lv (.ref (wa w k) :: st) (pc + 2)) : VJ L w X nL t r M1 M lv (.int (i32 (n : Int)) :: st) pc := by
  intro H locs ls hP hS hl
  have hwa := ha _ hP.2.2.2.2.2
  refine va_newaK (atype := .int) G.1 G.2.1 (G.2.2.2.2.1 _ hq) rfl hdg rfl (N := n) (by
    intro q
    have h9 := i32_lt (x := (n : Int)) (y := 0) ⟨by omega, by omega⟩ ir_0
    have := h9.mp q
    omega) (by rw [i32_nat (n := n + 1) ⟨by omega, by omega⟩ (by omega)]; omega) (by show n * 4 ≤ _; omega) hc hs rfl fun H1 cA e1 z1 o1 hAr hNm => ?_
  have hcA : cA = wT w 0 := by
    have h5 := (G.2.2.2.2.2.1.2 0 _ rfl).2
    exact Option.some.inj (hNm.symm.trans h5)
  have hP1 : Rp L' w M H1 := by
    refine grow_rp g hP o1 (fun k' hk' => ?_) (fun k' hk' => ?_) (by rw [z1]; exact hz _ hP.2.2.2.2.2)
    · have e : k' = k := by simpa using hk'
      subst e
      unfold eO
      rw [hk]
      show H1[wa w k']? = some (arrV (wT w 0) n (fun j => .int (i32 (M k' j))))
      rw [hwa, e1, hcA]
      congr 2
      funext j
      rw [h0 j]; rfl
    · have e : k' = k := by simpa using hk'
      subst e; exact h0
  have h := kk H1 locs ls hP1 (s_push (fun _ => trivial) hS z1 o1) hl
  rw [hwa] at h
  exact h
theorem vj_cnewb (G : Gc L w X own cc nL fr lo) {k n b : Nat} (g : Grow L L' [k]) (hk : lk L' k = (1, n, b)) (hn : n < 100000) (ha : ∀ m, lz L w m → wa w k = m) (hz : ∀ m, lz L w m → lz L' w (m + 1)) (h0 : ∀ j, M k j = 0) (hq : Cond.arrayClass .byte ∈ ALL) (hc : xcn X + 1 ≤ (xR X).cells) (hs : xsn X + n ≤ (xR X).slots) (hdg : decode cc pc = .ok (.newarray .byte, 2)) (kk : VJ L' w (xInc X 1 n) nL t r M1 M lv (.ref (wa w k) :: st) (pc + 2)) : VJ L w X nL t r M1 M lv (.int (i32 (n : Int)) :: st) pc := by
  intro H locs ls hP hS hl
  have hwa := ha _ hP.2.2.2.2.2
  refine va_newaK (atype := .byte) G.1 G.2.1 (G.2.2.2.2.1 _ hq) rfl hdg rfl (N := n) (by
    intro q
    have h9 := i32_lt (x := (n : Int)) (y := 0) ⟨by omega, by omega⟩ ir_0
    have := h9.mp q
    omega) (by rw [i32_nat (n := n + 1) ⟨by omega, by omega⟩ (by omega)]; omega) (by show n * 1 ≤ _; omega) hc hs rfl fun H1 cA e1 z1 o1 hAr hNm => ?_
  have hcA : cA = wT w 1 := by
    have h5 := (G.2.2.2.2.2.1.2 1 _ rfl).2
    exact Option.some.inj (hNm.symm.trans h5)
  have hP1 : Rp L' w M H1 := by
    refine grow_rp g hP o1 (fun k' hk' => ?_) (fun k' hk' => ?_) (by rw [z1]; exact hz _ hP.2.2.2.2.2)
    · have e : k' = k := by simpa using hk'
      subst e
      unfold eO
      rw [hk]
      show H1[wa w k']? = some (arrV (wT w 1) n (fun j => .int (i32 (M k' j))))
      rw [hwa, e1, hcA]
      congr 2
      funext j
      rw [h0 j]; rfl
    · have e : k' = k := by simpa using hk'
      subst e; exact h0
  have h := kk H1 locs ls hP1 (s_push (fun _ => trivial) hS z1 o1) hl
  rw [hwa] at h
  exact h
theorem vj_cnewj (G : Gc L w X own cc nL fr lo) {k n b : Nat} (g : Grow L L' [k]) (hk : lk L' k = (2, n, b)) (hn : n < 100000) (ha : ∀ m, lz L w m → wa w k = m) (hz : ∀ m, lz L w m → lz L' w (m + 1)) (h0 : ∀ j, M k j = 0) (hq : Cond.arrayClass .long ∈ ALL) (hc : xcn X + 1 ≤ (xR X).cells) (hs : xsn X + n ≤ (xR X).slots) (hdg : decode cc pc = .ok (.newarray .long, 2)) (kk : VJ L' w (xInc X 1 n) nL t r M1 M lv (.ref (wa w k) :: st) (pc + 2)) : VJ L w X nL t r M1 M lv (.int (i32 (n : Int)) :: st) pc := by
  intro H locs ls hP hS hl
  have hwa := ha _ hP.2.2.2.2.2
  refine va_newaK (atype := .long) G.1 G.2.1 (G.2.2.2.2.1 _ hq) rfl hdg rfl (N := n) (by
    intro q
    have h9 := i32_lt (x := (n : Int)) (y := 0) ⟨by omega, by omega⟩ ir_0
    have := h9.mp q
    omega) (by rw [i32_nat (n := n + 1) ⟨by omega, by omega⟩ (by omega)]; omega) (by show n * 8 ≤ _; omega) hc hs rfl fun H1 cA e1 z1 o1 hAr hNm => ?_
  have hcA : cA = wT w 2 := by
    have h5 := (G.2.2.2.2.2.1.2 2 _ rfl).2
    exact Option.some.inj (hNm.symm.trans h5)
  have hP1 : Rp L' w M H1 := by
    refine grow_rp g hP o1 (fun k' hk' => ?_) (fun k' hk' => ?_) (by rw [z1]; exact hz _ hP.2.2.2.2.2)
    · have e : k' = k := by simpa using hk'
      subst e
      unfold eO
      rw [hk]
      show H1[wa w k']? = some (arrV (wT w 2) n (fun j => .long (i64 (M k' j))))
      rw [hwa, e1, hcA]
      congr 2
      funext j
      rw [h0 j]; rfl
    · have e : k' = k := by simpa using hk'
      subst e; exact h0
  have h := kk H1 locs ls hP1 (s_push (fun _ => trivial) hS z1 o1) hl
  rw [hwa] at h
  exact h
theorem vj_cnewz (G : Gc L w X own cc nL fr lo) {k n b : Nat} (g : Grow L L' [k]) (hk : lk L' k = (3, n, b)) (hn : n < 100000) (ha : ∀ m, lz L w m → wa w k = m) (hz : ∀ m, lz L w m → lz L' w (m + 1)) (h0 : ∀ j, M k j = 0) (hq : Cond.arrayClass .boolean ∈ ALL) (hc : xcn X + 1 ≤ (xR X).cells) (hs : xsn X + n ≤ (xR X).slots) (hdg : decode cc pc = .ok (.newarray .boolean, 2)) (kk : VJ L' w (xInc X 1 n) nL t r M1 M lv (.ref (wa w k) :: st) (pc + 2)) : VJ L w X nL t r M1 M lv (.int (i32 (n : Int)) :: st) pc := by
  intro H locs ls hP hS hl
  have hwa := ha _ hP.2.2.2.2.2
  refine va_newaK (atype := .boolean) G.1 G.2.1 (G.2.2.2.2.1 _ hq) rfl hdg rfl (N := n) (by
    intro q
    have h9 := i32_lt (x := (n : Int)) (y := 0) ⟨by omega, by omega⟩ ir_0
    have := h9.mp q
    omega) (by rw [i32_nat (n := n + 1) ⟨by omega, by omega⟩ (by omega)]; omega) (by show n * 1 ≤ _; omega) hc hs rfl fun H1 cA e1 z1 o1 hAr hNm => ?_
  have hcA : cA = wT w 3 := by
    have h5 := (G.2.2.2.2.2.1.2 3 _ rfl).2
    exact Option.some.inj (hNm.symm.trans h5)
  have hP1 : Rp L' w M H1 := by
    refine grow_rp g hP o1 (fun k' hk' => ?_) (fun k' hk' => ?_) (by rw [z1]; exact hz _ hP.2.2.2.2.2)
    · have e : k' = k := by simpa using hk'
      subst e
      unfold eO
      rw [hk]
      show H1[wa w k']? = some (arrV (wT w 3) n (fun j => .int (i32 (M k' j))))
      rw [hwa, e1, hcA]
      congr 2
      funext j
      rw [h0 j]; rfl
    · have e : k' = k := by simpa using hk'
      subst e; exact h0
  have h := kk H1 locs ls hP1 (s_push (fun _ => trivial) hS z1 o1) hl
  rw [hwa] at h
  exact h
theorem vj_cnewo (G : Gc L w X own cc nL fr lo) {k ci idx : Nat} (g : Grow L L' [k]) (hk : lk L' k = (4, ci, 0)) {C : String} {T : u_T} {N : Nat} (hcl : (lC L)[ci]? = some (C, T, N)) (hin : ∀ c ∈ u_ws C T N, c ∈ ALL) {ty0 : Nat → FieldType} (hty : ∀ k, k < N → parseFieldDescriptor (T k).2.2.1 = some (ty0 k)) (hdf : ∀ j, j < N → defaultValue (ty0 j) = vp_V (fvs (wa w) (M k) (lf L' ci)) j) (ha : ∀ m, lz L w m → wa w k = m) (hz : ∀ m, lz L w m → lz L' w (m + 1)) (h0 : ∀ j, M k j = 0) (q1 : Cond.classLink own idx C ∈ ALL) (q2 : Cond.instantiable C N ∈ ALL) (q3 : Cond.initialized C ∈ ALL) (hc : xcn X + 1 ≤ (xR X).cells) (hs : xsn X + N ≤ (xR X).slots) (hdg : decode cc pc = .ok (.new idx, 3)) (kk : VJ L' w (xInc X 1 N) nL t r M1 M lv (.ref (wa w k) :: st) (pc + 3)) : VJ L w X nL t r M1 M lv st pc := by
  intro H locs ls hP hS hl
  have hwa := ha _ hP.2.2.2.2.2
  have hts := G.2.2.2.2.1
  have hKn := G.2.2.2.2.2.1.1 ci _ hcl
  refine W.newcK G.1 G.2.1 G.2.2.2.1 (hts _ q1) (hts _ q2) (hts _ q3) rfl hdg hc hs hKn.2.1 rfl fun H1 kC hkC e1 z1 o1 => ?_
  have hP1 : Rp L' w M H1 := by
    refine grow_rp g hP o1 (fun k' hk' => ?_) (fun k' hk' => ?_) (by rw [z1]; exact hz _ hP.2.2.2.2.2)
    · have e : k' = k := by simpa using hk'
      subst e
      unfold eO
      rw [hk, g.1, hwa]
      exact ⟨_, hcl, (u_born ty0 hts hin hKn hkC e1 hty).to hdf⟩
    · have e : k' = k := by simpa using hk'
      subst e; exact h0
  have h := kk H1 locs ls hP1 (s_push (fun _ => trivial) hS z1 o1) hl
  rw [hwa] at h
  exact h
/-- a final field, in the constructor of the class that declares it; the layout may change with it -/
theorem vj_cputF (G : Gc L w X own cc nL fr lo) (hin2 : (xM X).name = "<init>") {k ci : Nat} (hk : lk L k = (4, ci, 0)) {C : String} {T : u_T} {N : Nat} (hc : (lC L)[ci]? = some (C, T, N)) (hin : ∀ c ∈ u_ws C T N, c ∈ ALL) {ty0 : Nat → FieldType} (hty : ∀ k, k < N → parseFieldDescriptor (T k).2.2.1 = some (ty0 k)) (hnm : ∀ a, a < N → ∀ b, b < N → a ≠ b → (T a).2.1 ≠ (T b).2.1) {j idx : Nat} (hj : j < N) (hq : Cond.fieldLink own idx own (T j).2.1 (T j).2.2.1 ∈ ALL) (hdecl : (T j).1 = own) (hfin : (T j).2.2.2 = true) {ty : FieldType} {x : Value} {M' : Mm} (hde : parseFieldDescriptor (T j).2.2.1 = some ty) (hn : narrow ty x = x) (hfit : fits ty x = true) (hlen : (lf L ci).length = N)
    (hRp : ∀ H H1 : Heap, Rp L w M H → H1.size = H.size → (∀ q : Nat, q ≠ wa w k → H1[q]? = H[q]?) → va_at (wD w) (lC L) (wa w k, .inr (ci, (fvs (wa w) (M k) (lf L ci)).set j x)) H1 → Rp L' w M' H1) (hdg : decode cc pc = .ok (.putfield idx, 3)) (kk : VJ L' w X nL t r M1 M' lv st (pc + 3)) : VJ L w X nL t r M1 M lv (x :: .ref (wa w k) :: st) pc := by
  intro H locs ls hP hS hl
  have hp : pr L w k := pr_lt hk (by decide)
  have hts := G.2.2.2.2.1
  have hap := va_apart (own := own) hts hin ty0 hty hnm G.2.2.2.2.2.1 hc
  obtain ⟨r1, h1, cell, q1, q2, q3, q4⟩ := rp_obj hP hk
  have hr : r1 = (C, T, N) := Option.some.inj (h1.symm.trans hc)
  subst hr
  obtain ⟨hSl, hfc, kC, hkC, hkind⟩ := G.2.2.2.2.2.1.1 ci _ hc
  obtain ⟨cf, kf, fi, f, hi, hsl⟩ := hSl j hj
  have hlay := hts _ (hin _ (u_in_lay hj))
  unfold u_lay at hlay
  rw [if_pos hfin] at hlay
  have hst := (u_facts hfc hkC (u_lays hts hin hj) hi).1
  have hcf : (xm X).cls = cf := by
    obtain ⟨_, _, c', _, _, _, -, -, hf', -, -, -, hown2, -⟩ := Cond.laysFinal_spec hlay
    have e1 : c' = cf := by have := hi.symm.trans hf'; simp at this; exact this.1.symm
    rw [hdecl] at hown2
    rw [← e1]; exact Option.some.inj (G.2.2.2.1.symm.trans hown2)
  have h6 := u_fits hfc hkC hkind (Or.inr hlay) hi hde hn hfit
  refine W.putFinK G.1 G.2.1 G.2.2.2.1 (hts _ hq) (by rw [hdecl] at hi; exact hi) hst hcf hin2 (by rw [q2]; exact h6) q1 q3 (by rw [hsl]; exact k2_hasslot (q4 j hj)) rfl rfl hdg fun H1 e z oq => ?_
  rw [hsl] at e
  refine kk H1 _ ls (hRp H H1 hP z oq ⟨_, hc, ?_⟩) (hS.put z oq (G.2.2.2.2.2.2.2.2.1.1 _ ⟨k, hp, rfl⟩)) hl
  exact t_OB.to (V := updV (vp_V (fvs (wa w) (M k) (lf L ci))) j x) ⟨_, e, q2, q3, t_set q4 hap hj x⟩ (fun i _ => vp_updV_set (by unfold fvs; rw [List.length_mapIdx, hlen]; exact hj) x i)
theorem vj_objInit (G : Gc L w X own cc nL fr lo) {idx a : Nat} (q1 : Cond.methodLink own idx Lib.objectInit ∈ ALL) (q2 : Cond.instanceMethod Lib.objectInit ∈ ALL) (q3 : Cond.code Lib.objectInit ⟨#[0xb1]⟩ 1 none ∈ ALL) (hf : 1 ≤ fr) (hlo : 20 ≤ lo) (hW : (st.map fun v => v.category).sum ≤ 8) (hdg : decode cc pc = .ok (.invokespecial idx, 3)) (kk : VJ L w X nL t r M1 M lv st (pc + 3)) : VJ L w X nL t r M1 M lv (.ref a :: st) pc := by
  intro H locs ls hP hS hl
  have hts := G.2.2.2.2.1
  refine W.objInit G.1 G.2.1 G.2.2.2.1 (hts _ q1) (hts _ q2) (hts _ q3) rfl (by rw [G.2.2.1]; exact hl.1) rfl hdg (Nat.le_trans hf G.2.2.2.2.2.2.2.2.2.2.2.1) ?_ (kk H locs ls hP hS hl)
  have h1 := Nat.le_trans hlo G.2.2.2.2.2.2.2.2.2.2.2.2
  have h2 := lv_room (m := xm X) (pc := pc) (ls := ls) (rest := .ref a :: st) hW
  show 2 * (F0 (xm X) pc ls (.ref a :: st)).monitorRoom + _ + 12 ≤ _
  omega
/-- what a walk stands on, when the layout grows -/
theorem grow_gc (G : Gc L w X own cc nL fr lo) (h1 : lC L' = lC L) (hij : ij L' w) (hK : Kst L') (hX : lX L' w (xs X)) (hA : ∀ q, Aw L' w q → xA X q) (hA2 : ∀ q, Aw L w q → Aw L' w q) {a b : Nat} (hc : xcn X + a ≤ (xR X).cells) (hs : xsn X + b ≤ (xR X).slots) : Gc L' w (xInc X a b) own cc nL fr lo := by
  obtain ⟨g1, g2, g3, g4, g5, g6, g7, g8, g9, g10, g11, g12, g13⟩ := G
  exact ⟨g1, g2, g3, g4, g5, by rw [h1]; exact g6, hX, g8, ⟨hA, fun q hq hz => hA2 q (g9.2.1 q hq hz), hc, hs⟩, hij, hK, g12, g13⟩
end ALLOC
