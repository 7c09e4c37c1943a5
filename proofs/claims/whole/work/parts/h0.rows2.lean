/-! Constructors by stages: rows of their walks. -/
def evO (l : List Nat) (k : Nat) : Nat := (l[k]?).getD 0
def evG (fl : List (List Nat)) (c j : Nat) : Nat := (((fl[c]?).getD [])[j]?).getD 0
def chK : List Nat → Nat → Nat → (Nat → Bool) → Bool
  | [], _, _, _ => true
  | a :: l, i, e, p => (!(a == e) || p i) && chK l (i + 1) e p
def chG : List (List Nat) → Nat → Nat → (Nat → Nat → Bool) → Bool
  | [], _, _, _ => true
  | r :: l, c, e, p => chK r 0 e (p c) && chG l (c + 1) e p
theorem chK_ok : ∀ {l : List Nat} {i e : Nat} {p : Nat → Bool}, chK l i e p = true → ∀ k, l[k]? = some e → p (i + k) = true
  | [], _, _, _, _, k, h => by rw [List.getElem?_nil] at h; cases h
  | a :: l, i, e, p, h, 0, hk => by
    have h1 : a = e := Option.some.inj hk
    subst h1
    unfold chK at h
    rw [Bool.and_eq_true] at h
    have h2 := h.1
    rw [show (a == a) = true from beq_self_eq_true a] at h2
    exact h2
  | a :: l, i, e, p, h, k + 1, hk => by
    unfold chK at h
    rw [Bool.and_eq_true] at h
    have h2 := chK_ok h.2 k hk
    rw [show i + (k + 1) = i + 1 + k by omega]
    exact h2
theorem chG_ok : ∀ {l : List (List Nat)} {i e : Nat} {p : Nat → Nat → Bool}, chG l i e p = true → ∀ c r, l[c]? = some r → chK r 0 e (p (i + c)) = true
  | [], _, _, _, _, c, r, h => by rw [List.getElem?_nil] at h; cases h
  | a :: l, i, e, p, h, 0, r, hk => by
    have h1 : a = r := Option.some.inj hk
    subst h1
    unfold chG at h
    rw [Bool.and_eq_true] at h
    exact h.1
  | a :: l, i, e, p, h, c + 1, r, hk => by
    unfold chG at h
    rw [Bool.and_eq_true] at h
    have h2 := chG_ok h.2 c r hk
    rw [show i + (c + 1) = i + 1 + c by omega]
    exact h2
theorem evO_u {l : List Nat} {e : Nat} {p : Nat → Bool} (he : 0 < e) (h : chK l 0 e p = true) (k : Nat) (hk : evO l k = e) : p k = true := by
  unfold evO at hk
  cases hl : l[k]? with
  | none => rw [hl] at hk; have : 0 = e := hk; omega
  | some x =>
    rw [hl] at hk
    have h1 : x = e := hk
    subst h1
    have h2 := chK_ok h k hl
    rw [Nat.zero_add] at h2
    exact h2
theorem evG_u {l : List (List Nat)} {e : Nat} {p : Nat → Nat → Bool} (he : 0 < e) (h : chG l 0 e p = true) (c j : Nat) (hk : evG l c j = e) : p c j = true := by
  unfold evG at hk
  cases hl : l[c]? with
  | none => rw [hl] at hk; have : 0 = e := by rw [← hk]; rfl
            omega
  | some r =>
    rw [hl] at hk
    have h1 : evO r j = e := hk
    have h2 := chG_ok h c r hl
    rw [Nat.zero_add] at h2
    exact evO_u he h2 j h1
abbrev SLy (L : Lay) (l : List Nat) (fl : List (List Nat)) (cnt : List Nat) (z0 e : Nat) : Lay := stL L (evO l) (evG fl) (fun e w n => n = wa w z0 + evO cnt e) e
theorem xInc_add (X : Cx) (a b c d : Nat) : xInc (xInc X a b) c d = xInc X (a + c) (b + d) := by
  show (X.1, X.2.1, X.2.2.1, X.2.2.2.1, X.2.2.2.2.1 + a + c, X.2.2.2.2.2.1 + b + d, X.2.2.2.2.2.2.1, X.2.2.2.2.2.2.2) = _
  rw [Nat.add_assoc, Nat.add_assoc]
  rfl
def GB (S : Nat → Lay) (w : Wd) (X : Cx) (own : String) (cc : ByteArray) (nL fr lo e0 e1 cl sl : Nat) : Prop := ∀ e a b, e0 ≤ e → e ≤ e1 → a ≤ cl → b ≤ sl → Gc (S e) w (xInc X a b) own cc nL fr lo
section
variable {L : Lay} {evK : Nat → Nat} {evF : Nat → Nat → Nat} {Z : Nat → Wd → Nat → Prop} {w : Wd} {e e' k : Nat}
theorem pr_st (h : pr (stL L evK evF Z e) w k) : pr L w k := by
  by_cases c : evK k < e
  · unfold pr at h ⊢
    rw [stL_at c] at h
    exact h
  · unfold pr at h
    rw [stL_no c] at h
    exact absurd rfl h.1
theorem pr_sm (he : e ≤ e') (h : pr (stL L evK evF Z e) w k) : pr (stL L evK evF Z e') w k := by
  by_cases c : evK k < e
  · unfold pr at h ⊢
    rw [stL_at c] at h
    rw [stL_at (show evK k < e' by omega)]
    exact h
  · unfold pr at h
    rw [stL_no c] at h
    exact absurd rfl h.1
theorem KstS (hK : Kst L) (e : Nat) : Kst (stL L evK evF Z e) := fun w s U h hq hv => hK w s U h (fun a h1 h2 => hq a h1 (fun ⟨k, p, q⟩ => h2 ⟨k, pr_st p, q⟩)) hv
theorem ij_st (h : ij L w) : ij (stL L evK evF Z e) w := fun k k' p q r => h k k' (pr_st p) (pr_st q) r
end
section
variable {L : Lay} {l : List Nat} {fl : List (List Nat)} {cnt : List Nat} {z0 : Nat} {w : Wd} {X : Cx} {own : String} {cc : ByteArray} {nL fr lo e0 e1 cl sl : Nat}
theorem gb_of {ret : Option FieldType} {nm : String} (hij : ij L w) (hK : Kst L) (G9 : Gn (SLy L l fl cnt z0 e0) (SLy L l fl cnt z0 e1) w X own cc nL fr cl sl lo ret nm) : GB (SLy L l fl cnt z0) w X own cc nL fr lo e0 e1 cl sl := by
  intro e a b h0 h1 ha hb
  obtain ⟨⟨g1, g2, g3, g4, g5, g6, g7, g8, g9, g10, g11, g12, g13⟩, gr, gA, gc, gs, gC, gS, gQ, gN⟩ := G9
  refine ⟨g1, g2, g3, g4, g5, g6, g7, g8, ⟨fun q hq => ?_, fun q hq hz => ?_, ?_, ?_⟩, ij_st hij, KstS hK e, g12, g13⟩
  · show xA X q
    rw [gA]
    obtain ⟨k, h2, h3⟩ := hq
    exact ⟨k, pr_sm h1 h2, h3⟩
  · obtain ⟨k, h2, h3⟩ := g9.2.1 q hq hz
    exact ⟨k, pr_sm h0 h2, h3⟩
  · show xcn X + a ≤ (xR X).cells
    rw [gc, gC]; omega
  · show xsn X + b ≤ (xR X).slots
    rw [gs, gS]; omega
variable {t pc : Nat} {r : Int} {M1 M : Mm} {lv : List (Nat × Value)} {st : List Value}
theorem gb_c (B : GB (SLy L l fl cnt z0) w X own cc nL fr lo e0 e1 cl sl) {e a b : Nat} (h0 : e0 ≤ e) (h1 : e ≤ e1) (ha : a ≤ cl) (hb : b ≤ sl) : xcn X + a ≤ (xR X).cells ∧ xsn X + b ≤ (xR X).slots := (B e a b h0 h1 ha hb).2.2.2.2.2.2.2.2.1.2.2
theorem sn_i (B : GB (SLy L l fl cnt z0) w X own cc nL fr lo e0 e1 cl sl) {e e' a a' b b' k n z : Nat} (hb : e0 ≤ e ∧ e' ≤ e1 ∧ a' ≤ cl ∧ b' ≤ sl ∧ e + 1 = e' ∧ a + 1 = a' ∧ b + n = b' ∧ n < 100000 ∧ 0 < e) (hk : lk L k = (0, n, z)) (hev : evO l k = e) (hu : chK l 0 e (fun i => i == k) = true) (hf : chG fl 0 e (fun _ _ => false) = true) (hc : evO cnt e' = evO cnt e + 1) (hw : wa w k = wa w z0 + evO cnt e) (h0 : ∀ j, M k j = 0) (hq : Cond.arrayClass .int ∈ ALL) (hdg : decode cc pc = .ok (.newarray .int, 2)) (kk : VJ (SLy L l fl cnt z0 e') w (xInc X a' b') nL t r M1 M lv (.ref (wa w k) :: st) (pc + 2)) : VJ (SLy L l fl cnt z0 e) w (xInc X a b) nL t r M1 M lv (.int (i32 (n : Int)) :: st) pc := by
  obtain ⟨b1, b2, b3, b4, rfl, rfl, rfl, b5, b6⟩ := hb
  have G := B e a b b1 (by omega) (by omega) (by omega)
  have R := gb_c B (e := e + 1) (Nat.le_trans b1 (Nat.le_succ e)) b2 b3 b4
  refine vj_cnewi G (L' := SLy L l fl cnt z0 (e + 1)) (k := k) (n := n) (b := z) (stL_grow hev (fun k' q => by simpa using evO_u b6 hu k' q) (fun c j q => by have h := evG_u b6 hf c j q; cases h)) ((stL_at (show evO l k < e + 1 by omega)).trans hk) b5 (fun m hm => hw.trans (show m = wa w z0 + evO cnt e from hm).symm) (fun m hm => ?_) h0 hq R.1 (by show xsn X + b + n ≤ _; rw [Nat.add_assoc]; exact R.2) hdg ?_
  · show m + 1 = wa w z0 + evO cnt (e + 1)
    have hm : m = wa w z0 + evO cnt e := hm
    omega
  · rw [xInc_add]
    exact kk
theorem sn_b (B : GB (SLy L l fl cnt z0) w X own cc nL fr lo e0 e1 cl sl) {e e' a a' b b' k n z : Nat} (hb : e0 ≤ e ∧ e' ≤ e1 ∧ a' ≤ cl ∧ b' ≤ sl ∧ e + 1 = e' ∧ a + 1 = a' ∧ b + n = b' ∧ n < 100000 ∧ 0 < e) (hk : lk L k = (1, n, z)) (hev : evO l k = e) (hu : chK l 0 e (fun i => i == k) = true) (hf : chG fl 0 e (fun _ _ => false) = true) (hc : evO cnt e' = evO cnt e + 1) (hw : wa w k = wa w z0 + evO cnt e) (h0 : ∀ j, M k j = 0) (hq : Cond.arrayClass .byte ∈ ALL) (hdg : decode cc pc = .ok (.newarray .byte, 2)) (kk : VJ (SLy L l fl cnt z0 e') w (xInc X a' b') nL t r M1 M lv (.ref (wa w k) :: st) (pc + 2)) : VJ (SLy L l fl cnt z0 e) w (xInc X a b) nL t r M1 M lv (.int (i32 (n : Int)) :: st) pc := by
  obtain ⟨b1, b2, b3, b4, rfl, rfl, rfl, b5, b6⟩ := hb
  have G := B e a b b1 (by omega) (by omega) (by omega)
  have R := gb_c B (e := e + 1) (Nat.le_trans b1 (Nat.le_succ e)) b2 b3 b4
  refine vj_cnewb G (L' := SLy L l fl cnt z0 (e + 1)) (k := k) (n := n) (b := z) (stL_grow hev (fun k' q => by simpa using evO_u b6 hu k' q) (fun c j q => by have h := evG_u b6 hf c j q; cases h)) ((stL_at (show evO l k < e + 1 by omega)).trans hk) b5 (fun m hm => hw.trans (show m = wa w z0 + evO cnt e from hm).symm) (fun m hm => ?_) h0 hq R.1 (by show xsn X + b + n ≤ _; rw [Nat.add_assoc]; exact R.2) hdg ?_
  · show m + 1 = wa w z0 + evO cnt (e + 1)
    have hm : m = wa w z0 + evO cnt e := hm
    omega
  · rw [xInc_add]
    exact kk
theorem sn_j (B : GB (SLy L l fl cnt z0) w X own cc nL fr lo e0 e1 cl sl) {e e' a a' b b' k n z : Nat} (hb : e0 ≤ e ∧ e' ≤ e1 ∧ a' ≤ cl ∧ b' ≤ sl ∧ e + 1 = e' ∧ a + 1 = a' ∧ b + n = b' ∧ n < 100000 ∧ 0 < e) (hk : lk L k = (2, n, z)) (hev : evO l k = e) (hu : chK l 0 e (fun i => i == k) = true) (hf : chG fl 0 e (fun _ _ => false) = true) (hc : evO cnt e' = evO cnt e + 1) (hw : wa w k = wa w z0 + evO cnt e) (h0 : ∀ j, M k j = 0) (hq : Cond.arrayClass .long ∈ ALL) (hdg : decode cc pc = .ok (.newarray .long, 2)) (kk : VJ (SLy L l fl cnt z0 e') w (xInc X a' b') nL t r M1 M lv (.ref (wa w k) :: st) (pc + 2)) : VJ (SLy L l fl cnt z0 e) w (xInc X a b) nL t r M1 M lv (.int (i32 (n : Int)) :: st) pc := by
  obtain ⟨b1, b2, b3, b4, rfl, rfl, rfl, b5, b6⟩ := hb
  have G := B e a b b1 (by omega) (by omega) (by omega)
  have R := gb_c B (e := e + 1) (Nat.le_trans b1 (Nat.le_succ e)) b2 b3 b4
  refine vj_cnewj G (L' := SLy L l fl cnt z0 (e + 1)) (k := k) (n := n) (b := z) (stL_grow hev (fun k' q => by simpa using evO_u b6 hu k' q) (fun c j q => by have h := evG_u b6 hf c j q; cases h)) ((stL_at (show evO l k < e + 1 by omega)).trans hk) b5 (fun m hm => hw.trans (show m = wa w z0 + evO cnt e from hm).symm) (fun m hm => ?_) h0 hq R.1 (by show xsn X + b + n ≤ _; rw [Nat.add_assoc]; exact R.2) hdg ?_
  · show m + 1 = wa w z0 + evO cnt (e + 1)
    have hm : m = wa w z0 + evO cnt e := hm
    omega
  · rw [xInc_add]
    exact kk
theorem sn_z (B : GB (SLy L l fl cnt z0) w X own cc nL fr lo e0 e1 cl sl) {e e' a a' b b' k n z : Nat} (hb : e0 ≤ e ∧ e' ≤ e1 ∧ a' ≤ cl ∧ b' ≤ sl ∧ e + 1 = e' ∧ a + 1 = a' ∧ b + n = b' ∧ n < 100000 ∧ 0 < e) (hk : lk L k = (3, n, z)) (hev : evO l k = e) (hu : chK l 0 e (fun i => i == k) = true) (hf : chG fl 0 e (fun _ _ => false) = true) (hc : evO cnt e' = evO cnt e + 1) (hw : wa w k = wa w z0 + evO cnt e) (h0 : ∀ j, M k j = 0) (hq : Cond.arrayClass .boolean ∈ ALL) (hdg : decode cc pc = .ok (.newarray .boolean, 2)) (kk : VJ (SLy L l fl cnt z0 e') w (xInc X a' b') nL t r M1 M lv (.ref (wa w k) :: st) (pc + 2)) : VJ (SLy L l fl cnt z0 e) w (xInc X a b) nL t r M1 M lv (.int (i32 (n : Int)) :: st) pc := by
  obtain ⟨b1, b2, b3, b4, rfl, rfl, rfl, b5, b6⟩ := hb
  have G := B e a b b1 (by omega) (by omega) (by omega)
  have R := gb_c B (e := e + 1) (Nat.le_trans b1 (Nat.le_succ e)) b2 b3 b4
  refine vj_cnewz G (L' := SLy L l fl cnt z0 (e + 1)) (k := k) (n := n) (b := z) (stL_grow hev (fun k' q => by simpa using evO_u b6 hu k' q) (fun c j q => by have h := evG_u b6 hf c j q; cases h)) ((stL_at (show evO l k < e + 1 by omega)).trans hk) b5 (fun m hm => hw.trans (show m = wa w z0 + evO cnt e from hm).symm) (fun m hm => ?_) h0 hq R.1 (by show xsn X + b + n ≤ _; rw [Nat.add_assoc]; exact R.2) hdg ?_
  · show m + 1 = wa w z0 + evO cnt (e + 1)
    have hm : m = wa w z0 + evO cnt e := hm
    omega
  · rw [xInc_add]
    exact kk
/-- a new object -/
theorem sn_o (B : GB (SLy L l fl cnt z0) w X own cc nL fr lo e0 e1 cl sl) {e e' a a' b b' k ci idx : Nat} {C : String} {T : u_T} {N : Nat} (hb : e0 ≤ e ∧ e' ≤ e1 ∧ a' ≤ cl ∧ b' ≤ sl ∧ e + 1 = e' ∧ a + 1 = a' ∧ b + N = b' ∧ 0 < e) (hk : lk L k = (4, ci, 0)) (hev : evO l k = e) (hu : chK l 0 e (fun i => i == k) = true) (hf : chG fl 0 e (fun _ _ => false) = true) (hc : evO cnt e' = evO cnt e + 1) (hw : wa w k = wa w z0 + evO cnt e) (h0 : ∀ j, M k j = 0) (hcl : (lC L)[ci]? = some (C, T, N)) (hin : ∀ c ∈ u_ws C T N, c ∈ ALL) {ty0 : Nat → FieldType} (hty : ∀ k, k < N → parseFieldDescriptor (T k).2.2.1 = some (ty0 k)) (hdf : ∀ j, j < N → defaultValue (ty0 j) = vp_V (fvs (wa w) (M k) (stFl e' (evG fl ci) (lf L ci))) j) (q1 : Cond.classLink own idx C ∈ ALL) (q2 : Cond.instantiable C N ∈ ALL) (q3 : Cond.initialized C ∈ ALL) (hdg : decode cc pc = .ok (.new idx, 3)) (kk : VJ (SLy L l fl cnt z0 e') w (xInc X a' b') nL t r M1 M lv (.ref (wa w k) :: st) (pc + 3)) : VJ (SLy L l fl cnt z0 e) w (xInc X a b) nL t r M1 M lv st pc := by
  obtain ⟨b1, b2, b3, b4, rfl, rfl, rfl, b6⟩ := hb
  have G := B e a b b1 (by omega) (by omega) (by omega)
  have R := gb_c B (e := e + 1) (Nat.le_trans b1 (Nat.le_succ e)) b2 b3 b4
  refine vj_cnewo G (L' := SLy L l fl cnt z0 (e + 1)) (k := k) (ci := ci) (stL_grow hev (fun k' q => by simpa using evO_u b6 hu k' q) (fun c j q => by have h := evG_u b6 hf c j q; cases h)) ((stL_at (show evO l k < e + 1 by omega)).trans hk) hcl hin hty hdf (fun m hm => hw.trans (show m = wa w z0 + evO cnt e from hm).symm) (fun m hm => ?_) h0 q1 q2 q3 R.1 (by show xsn X + b + N ≤ _; rw [Nat.add_assoc]; exact R.2) hdg ?_
  · show m + 1 = wa w z0 + evO cnt (e + 1)
    have hm : m = wa w z0 + evO cnt e := hm
    omega
  · rw [xInc_add]
    exact kk
/-- a field that refers is set -/
theorem sn_f (B : GB (SLy L l fl cnt z0) w X own cc nL fr lo e0 e1 cl sl) (hin2 : (xM X).name = "<init>") {e e' a b k c kk j idx : Nat} {C : String} {T : u_T} {N : Nat} (hb : e0 ≤ e ∧ e' ≤ e1 ∧ a ≤ cl ∧ b ≤ sl ∧ e + 1 = e' ∧ 0 < e ∧ j < N) (hl : (lf L c)[j]? = some (1, kk)) (hev : evG fl c j = e) (hu : chG fl 0 e (fun c' j' => c' == c && j' == j) = true) (hf : chK l 0 e (fun _ => false) = true) (hc : evO cnt e' = evO cnt e) (hk : lk L k = (4, c, 0)) (hke : evO l k < e) (h1 : ∀ k', (lk L k').1 = 4 → (lk L k').2.1 = c → k' = k) (hij : ij L w)
    (hcl : (lC L)[c]? = some (C, T, N)) (hin : ∀ x ∈ u_ws C T N, x ∈ ALL) {ty0 : Nat → FieldType} (hty : ∀ k, k < N → parseFieldDescriptor (T k).2.2.1 = some (ty0 k)) (hnm : ∀ a, a < N → ∀ b, b < N → a ≠ b → (T a).2.1 ≠ (T b).2.1) (hlen : (lf L c).length = N) (hq : Cond.fieldLink own idx own (T j).2.1 (T j).2.2.1 ∈ ALL) (hdecl : (T j).1 = own) (hfin : (T j).2.2.2 = true) {ty : FieldType} (hde : parseFieldDescriptor (T j).2.2.1 = some ty) (hn : narrow ty (.ref (wa w kk)) = .ref (wa w kk)) (hfit : fits ty (.ref (wa w kk)) = true)
    (hdg : decode cc pc = .ok (.putfield idx, 3)) (kn : VJ (SLy L l fl cnt z0 e') w (xInc X a b) nL t r M1 M lv st (pc + 3)) : VJ (SLy L l fl cnt z0 e) w (xInc X a b) nL t r M1 M lv (.ref (wa w kk) :: .ref (wa w k) :: st) pc := by
  obtain ⟨b1, b2, b3, b4, rfl, b6, b7⟩ := hb
  have G := B e a b b1 (by omega) b3 b4
  have hk1 : lk (SLy L l fl cnt z0 e) k = (4, c, 0) := (stL_at hke).trans hk
  refine vj_cputF (L' := SLy L l fl cnt z0 (e + 1)) (M' := M) G hin2 hk1 hcl hin hty hnm b7 hq hdecl hfin hde hn hfit (by show (stFl e (evG fl c) (lf L c)).length = N; unfold stFl; rw [List.length_mapIdx]; exact hlen) (fun H H1 hP hz ho hv => ?_) hdg kn
  refine stL_put (c := c) (j := j) (kk := kk) hl hev (fun c' j' q => ?_) (fun k' q => ?_) hk hke h1 (ij_st hij) (fun n hn => ?_) hP hz ho hv
  · have h := evG_u b6 hu c' j' q
    simpa using h
  · have h := evO_u b6 hf k' q
    cases h
  · show n = wa w z0 + evO cnt (e + 1)
    rw [hc]; exact hn
theorem stFl_v {ev : Nat → Nat} {e j ty z : Nat} {fs : List (Nat × Nat)} (h : fs[j]? = some (ty, z)) (ht : ty ≠ 1) : (stFl e ev fs)[j]? = some (ty, z) := by
  rw [stFl_at, h]
  show some (if ty = 1 ∧ e ≤ ev j then (4, 0) else (ty, z)) = _
  rw [if_neg (fun q => ht q.1)]
theorem stFl_r {ev : Nat → Nat} {e j z : Nat} {fs : List (Nat × Nat)} (h : fs[j]? = some (1, z)) (ht : ev j < e) : (stFl e ev fs)[j]? = some (1, z) := by
  rw [stFl_at, h]
  show some (if 1 = 1 ∧ e ≤ ev j then (4, 0) else (1, z)) = _
  rw [if_neg (by omega)]
theorem mset_same {M : Mm} {k j : Nat} {v : Int} (h : M k j = v) : mset M k j v = M := by
  funext k' j'
  rw [mg]
  by_cases c : k' = k
  · subst c
    rw [if_pos rfl]
    by_cases d : j' = j
    · subst d; rw [if_pos rfl]; exact h.symm
    · rw [if_neg d]
  · rw [if_neg c]
/-- a field that holds a number is set -/
theorem sn_p (B : GB (SLy L l fl cnt z0) w X own cc nL fr lo e0 e1 cl sl) {e a b k c j idx tq : Nat} {v : Int} {x : Value} {C : String} {T : u_T} {N : Nat} (hb : e0 ≤ e ∧ e ≤ e1 ∧ a ≤ cl ∧ b ≤ sl ∧ j < N ∧ k < 900 ∧ k ≠ lh L) (hl : (lf L c)[j]? = some (tq, 0)) (htq : tq ≠ 1) (hk : lk L k = (4, c, 0)) (hke : evO l k < e)
    (hcl : (lC L)[c]? = some (C, T, N)) (hin : ∀ x ∈ u_ws C T N, x ∈ ALL) {ty0 : Nat → FieldType} (hty : ∀ k, k < N → parseFieldDescriptor (T k).2.2.1 = some (ty0 k)) (hnm : ∀ a, a < N → ∀ b, b < N → a ≠ b → (T a).2.1 ≠ (T b).2.1) (hlen : (lf L c).length = N) (hq : Cond.fieldLink own idx C (T j).2.1 (T j).2.2.1 ∈ ALL) (hdecl : (T j).1 = C) (hfin : (T j).2.2.2 = false) {ty : FieldType} (hde : parseFieldDescriptor (T j).2.2.1 = some ty) (hn : narrow ty x = x) (hfit : fits ty x = true) (hx : fv (wa w) (fun _ => v) j (tq, 0) = x) (hr : rT tq v)
    (hdg : decode cc pc = .ok (.putfield idx, 3)) (kn : VJ (SLy L l fl cnt z0 e) w (xInc X a b) nL t r M1 (mset M k j v) lv st (pc + 3)) : VJ (SLy L l fl cnt z0 e) w (xInc X a b) nL t r M1 M lv (x :: .ref (wa w k) :: st) pc := by
  obtain ⟨b1, b2, b3, b4, b5, b6, b7⟩ := hb
  have G := B e a b b1 b2 b3 b4
  have hk1 : lk (SLy L l fl cnt z0 e) k = (4, c, 0) := (stL_at hke).trans hk
  have hl1 : (lf (SLy L l fl cnt z0 e) c)[j]? = some (tq, 0) := stFl_v hl htq
  refine vj_putf G hk1 b6 b7 hcl hin hty hnm b5 hq hdecl hfin hde hn hfit (by show (stFl e (evG fl c) (lf L c)).length = N; unfold stFl; rw [List.length_mapIdx]; exact hlen) (fun c9 h9 => ?_) ?_ hdg kn
  · rw [hl1] at h9
    have h9 : (tq, 0) = c9 := Option.some.inj h9
    subst h9
    rw [← hx]
    unfold fv
    simp only [if_true]
  · have ht : tO (SLy L l fl cnt z0 e) k j = tq := by
      unfold tO
      rw [hk1]
      show (((lf (SLy L l fl cnt z0 e) c)[j]?).getD (0, 0)).1 = tq
      rw [hl1]; rfl
    rw [ht]
    exact hr
theorem sn_p0 (B : GB (SLy L l fl cnt z0) w X own cc nL fr lo e0 e1 cl sl) {e a b k c j idx tq : Nat} {v : Int} {x : Value} {C : String} {T : u_T} {N : Nat} (hb : e0 ≤ e ∧ e ≤ e1 ∧ a ≤ cl ∧ b ≤ sl ∧ j < N ∧ k < 900 ∧ k ≠ lh L) (hl : (lf L c)[j]? = some (tq, 0)) (htq : tq ≠ 1) (hk : lk L k = (4, c, 0)) (hke : evO l k < e)
    (hcl : (lC L)[c]? = some (C, T, N)) (hin : ∀ x ∈ u_ws C T N, x ∈ ALL) {ty0 : Nat → FieldType} (hty : ∀ k, k < N → parseFieldDescriptor (T k).2.2.1 = some (ty0 k)) (hnm : ∀ a, a < N → ∀ b, b < N → a ≠ b → (T a).2.1 ≠ (T b).2.1) (hlen : (lf L c).length = N) (hq : Cond.fieldLink own idx C (T j).2.1 (T j).2.2.1 ∈ ALL) (hdecl : (T j).1 = C) (hfin : (T j).2.2.2 = false) {ty : FieldType} (hde : parseFieldDescriptor (T j).2.2.1 = some ty) (hn : narrow ty x = x) (hfit : fits ty x = true) (hx : fv (wa w) (fun _ => v) j (tq, 0) = x) (hr : rT tq v) (h0 : M k j = v)
    (hdg : decode cc pc = .ok (.putfield idx, 3)) (kn : VJ (SLy L l fl cnt z0 e) w (xInc X a b) nL t r M1 M lv st (pc + 3)) : VJ (SLy L l fl cnt z0 e) w (xInc X a b) nL t r M1 M lv (x :: .ref (wa w k) :: st) pc :=
  sn_p B hb hl htq hk hke hcl hin hty hnm hlen hq hdecl hfin hde hn hfit hx hr hdg (by rw [mset_same h0]; exact kn)
end
