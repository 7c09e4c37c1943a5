/-! The law from its entry. -/
theorem evO_lt {l : List Nat} {m : Nat} (h : (l.all fun x => decide (x < m)) = true) (hm : 0 < m) (k : Nat) : evO l k < m := by
  unfold evO
  cases hk : l[k]? with
  | none => exact hm
  | some x => exact of_decide_eq_true (List.all_eq_true.mp h x (List.mem_of_getElem? hk))
theorem evG_lt {l : List (List Nat)} {m : Nat} (h : (l.all fun r => r.all fun x => decide (x < m)) = true) (hm : 0 < m) (c j : Nat) : evG l c j < m := by
  unfold evG
  cases hk : l[c]? with
  | none => exact hm
  | some r => exact evO_lt (l := r) (List.all_eq_true.mp h r (List.mem_of_getElem? hk)) hm j
theorem stFl_all {ev : Nat → Nat} {e : Nat} (h : ∀ j, ev j < e) (l : List (Nat × Nat)) : stFl e ev l = l := by
  apply List.ext_getElem?
  intro j
  rw [stFl_at]
  cases hl : l[j]? with
  | none => rfl
  | some p =>
    show some (if p.1 = 1 ∧ e ≤ ev j then (4, 0) else p) = some p
    rw [if_neg (fun q => absurd (h j) (Nat.not_lt.mpr q.2))]
def wC0 (D : va_G) (T : Nat → ClassId) (ad : Nat → Nat) (z : Nat) : Wd := (D, T, fun k => z + evO oaC k, 0, ad, fun _ => 0, fun _ => 0)
def wR0 (D : va_G) (T : Nat → ClassId) (ad : Nat → Nat) (z : Nat) : Wd := (D, T, fun k => z + evO oaR k, 0, ad, fun _ => 0, fun _ => 0)
theorem ord_C2 : ∀ i, i < 210 → (lkfC i).1 ≠ 9 → evO ozC (evO oaC i) = i := by decide +kernel
theorem no_C1 : ∀ i, i < 210 → evO evC i < 1 → (lkfC i).1 = 9 := by decide +kernel
theorem no_R1 : ∀ i, i < 51 → ¬ evO evR i < 1 := by decide +kernel
theorem oaC_lt : ∀ k, evO oaC k < 141 := evO_lt (by decide +kernel) (by decide)
theorem oaR_lt : ∀ k, evO oaR k < 51 := evO_lt (by decide +kernel) (by decide)
theorem evC_lt : ∀ k, evO evC k < 123 := evO_lt (by decide +kernel) (by decide)
theorem evR_lt : ∀ k, evO evR k < 102 := evO_lt (by decide +kernel) (by decide)
theorem efC_lt : ∀ c j, evG efC c j < 123 := evG_lt (by decide +kernel) (by decide)
theorem efR_lt : ∀ c j, evG efR c j < 102 := evG_lt (by decide +kernel) (by decide)
section
variable {D : va_G} {T : Nat → ClassId} {ad : Nat → Nat} {z : Nat} {w wR : Wd} {X : Cx} {M : Mm} {H : Heap}
theorem pr_C0 {k : Nat} (h : pr LC (wC0 D T ad z) k) : k < 210 ∧ (lkfC k).1 ≠ 9 := by
  refine ⟨?_, h.1⟩
  by_cases y : 500 ≤ k ∧ k < 516
  · have el : lk LC k = (8, k - 500, 10) := if_pos y
    unfold pr at h
    rw [el] at h
    have h2 : ((k - 500 : Nat) : Int) < 0 := h.2 rfl
    omega
  · rcases Nat.lt_or_ge k 210 with q | q
    · exact q
    · have h1 : (lkfC k).1 ≠ 9 := h.1
      rw [tb_far q y] at h1
      exact absurd rfl h1
theorem wcc0 : WCC (wC0 D T ad z) := by
  refine ⟨fun k k' h h' e => ?_, fun k => ?_, rfl⟩
  · have p := pr_C0 (D := D) (T := T) (ad := ad) (z := z) h
    have p' := pr_C0 (D := D) (T := T) (ad := ad) (z := z) h'
    have e : z + evO oaC k = z + evO oaC k' := e
    have e2 : evO oaC k = evO oaC k' := by omega
    rw [← ord_C2 k p.1 p.2, ← ord_C2 k' p'.1 p'.2, e2]
  · show z + evO oaC k = z + 0 + evO oaC k
    rfl
theorem pr_R0 {k : Nat} (h : pr LR wR k) : k < 51 := by
  rcases Nat.lt_or_ge k 51 with q | q
  · exact q
  · have e : lkfR k = (9, 0, 0) := by
      unfold lkfR
      rw [List.getElem?_eq_none (show lklR.length ≤ k from q)]
      rfl
    have h1 : (lkfR k).1 ≠ 9 := h.1
    rw [e] at h1
    exact absurd rfl h1
theorem wcr0 : WCR (wR0 D T ad z) := by
  refine ⟨fun k k' h h' e => ?_, fun k => ?_, rfl⟩
  · have p := pr_R0 h
    have p' := pr_R0 h'
    have e : z + evO oaR k = z + evO oaR k' := e
    have e2 : evO oaR k = evO oaR k' := by omega
    rw [← ord_R k p, ← ord_R k' p', e2]
  · show z + evO oaR k = z + 0 + evO oaR k
    rfl
theorem aw_C0 {q : Nat} (h : Aw LC (wC0 D T ad z) q) : z ≤ q ∧ q < z + 141 := by
  obtain ⟨k, -, h2⟩ := h
  have h2 : q = z + evO oaC k := h2
  have := oaC_lt k
  omega
theorem aw_R0 {q : Nat} (h : Aw LR (wR0 D T ad z) q) : z ≤ q ∧ q < z + 51 := by
  obtain ⟨k, -, h2⟩ := h
  have h2 : q = z + evO oaR k := h2
  have := oaR_lt k
  omega
theorem rp_C1 (hz : H.size = z) : Rp (SgC 1) (wC0 D T ad z) Z0 H := by
  refine ⟨fun k hk => ?_, fun k j => rT_0 _, rfl, rfl, rfl, ?_⟩
  · have p := pr_C0 (D := D) (T := T) (ad := ad) (z := z) (pr_st (L := LC9) (evK := evO evC) (evF := evG efC) (Z := fun e w n => n = wa w 0 + evO cnC e) hk)
    by_cases c : evO evC k < 1
    · exact absurd (no_C1 k p.1 c) p.2
    · unfold pr at hk
      rw [stL_no c] at hk
      exact absurd rfl hk.1
  · show H.size = z + 0 + 0
    exact hz
theorem rp_R1 (hz : H.size = z) : Rp (SgR 1) (wR0 D T ad z) Z0 H := by
  refine ⟨fun k hk => ?_, fun k j => rT_0 _, rfl, rfl, rfl, ?_⟩
  · have p := pr_R0 (pr_st hk)
    unfold pr at hk
    rw [stL_no (no_R1 k p)] at hk
    exact absurd rfl hk.1
  · show H.size = z + 0 + 0
    exact hz
theorem rp_C9 (h : Rp (SgC 123) w M H) : Rp LC w M H :=
  rp_sw (L := SgC 123) (L' := LC) rfl (fun k => (stL_at (L := LC9) (evK := evO evC) (evF := evG efC) (Z := fun e w n => n = wa w 0 + evO cnC e) (evC_lt k)).symm) (fun k _ => (stFl_all (efC_lt _) _).symm) rfl trivial h
theorem rp_R9 (h : Rp (SgR 102) wR M H) : Rp LR wR M H :=
  rp_sw (L := SgR 102) (L' := LR) rfl (fun k => (stL_at (L := LR) (evK := evO evR) (evF := evG efR) (Z := fun e w n => n = wa w 0 + evO cnR e) (evR_lt k)).symm) (fun k _ => (stFl_all (efR_lt _) _).symm) rfl trivial h
theorem gb_C (B : BL X) (hij : ij LC9 w) (hK : va_K (wD w) clsC (tys w) (xs X)) (h9 : KX9 w (xs X)) (hA : ∀ q, Aw LC9 w q → (xs X).heap.size ≤ q) : GB (SLy LC9 evC efC cnC 0) w X "WhoRulesLaw" code 4 2048 84000 1 123 600000 7302250 := by
  obtain ⟨b1, b2, b3, b4, b5, b6, b7, b8, b9, b10⟩ := B
  intro e a b _ _ ha hb
  refine ⟨b1, b2, b3, b4, b5, hK, h9, b6, ⟨fun q h => ?_, fun q h1 h2 => ?_, ?_, ?_⟩, ij_st hij, KstS KstLC9 e, ?_, ?_⟩
  · show xA X q
    rw [b7]
    obtain ⟨k, p, r⟩ := h
    exact hA q ⟨k, pr_st p, r⟩
  · have h2 : xA X q := h2
    rw [b7] at h2
    exact absurd h1 (Nat.not_lt.mpr h2)
  · show xcn X + a ≤ (xR X).cells
    rw [b9, b8, Nat.zero_add]; exact ha
  · show xsn X + b ≤ (xR X).slots
    rw [b10, b8, Nat.zero_add]; exact hb
  · show 2048 ≤ (xR X).frames
    rw [b8]; exact Nat.le_refl _
  · show 84000 ≤ (xR X).locals
    rw [b8]; exact Nat.le_refl _
theorem gb_R (B : BL X) (hij : ij LR w) (hK : va_K (wD w) clsR (tys w) (xs X)) (hA : ∀ q, Aw LR w q → (xs X).heap.size ≤ q) : GB (SLy LR evR efR cnR 0) w X "WhoRulesLaw" code 4 2048 84000 1 102 600000 7302250 := by
  obtain ⟨b1, b2, b3, b4, b5, b6, b7, b8, b9, b10⟩ := B
  intro e a b _ _ ha hb
  refine ⟨b1, b2, b3, b4, b5, hK, trivial, b6, ⟨fun q h => ?_, fun q h1 h2 => ?_, ?_, ?_⟩, ij_st hij, KstS KstLR e, ?_, ?_⟩
  · show xA X q
    rw [b7]
    obtain ⟨k, p, r⟩ := h
    exact hA q ⟨k, pr_st p, r⟩
  · have h2 : xA X q := h2
    rw [b7] at h2
    exact absurd h1 (Nat.not_lt.mpr h2)
  · show xcn X + a ≤ (xR X).cells
    rw [b9, b8, Nat.zero_add]; exact ha
  · show xsn X + b ≤ (xR X).slots
    rw [b10, b8, Nat.zero_add]; exact hb
  · show 2048 ≤ (xR X).frames
    rw [b8]; exact Nat.le_refl _
  · show 84000 ≤ (xR X).locals
    rw [b8]; exact Nat.le_refl _
end
theorem qn_131 : Cond.instantiable "WhoRules" 12 ∈ ALL := all_in 131 (by decide +kernel) rfl
theorem qn_1301 : Cond.instantiable "WhoRulesModel" 77 ∈ ALL := all_in 1301 (by decide +kernel) rfl
/-- behind the class's constructor -/
theorem law_second {X : Cx} {w wR : Wd} {b z : Nat} {xv : Nat → Int32} (B : BL X) (I : LIw X w wR) (R : RI X wR) (hwR : WCR wR) (BR : GB (SLy LR evR efR cnR 0) wR X "WhoRulesLaw" code 4 2048 84000 1 102 600000 7302250) (S : LwS X b z xv) (hL : z ≤ 3072) (hend : ∀ (a c : Nat) (w : Wd) (M N : Mm) (lv : List (Nat × Value)), a ≤ 600000 → c ≤ 7302250 → LIw X w wR → LJ LR (xInc X a c) w wR M N lv [] 1568) : LJ (SgR 1) (xInc X 141 5131) w wR MB Z0 [(1, .ref (wa w 0)), (0, .ref b)] [] 8 := by
  have hd : ∀ e q, Aw (SgR e) wR q → ¬ Aw LC w q := fun e q ⟨k, p, r⟩ => I.2.2.2.2 q ⟨k, pr_st p, r⟩
  have G1 := gl_C B I (a := 142) (b := 5208) ⟨by decide, by decide⟩
  have G2 := gl_C B I (a := 192) (b := 9375) ⟨by decide, by decide⟩
  have hr1 := gb_c BR (e := 2) (a := 142) (b := 5208) (by decide) (by decide) (by decide) (by decide)
  have hr2 := gb_c BR (e := 2) (a := 192) (b := 9375) (by decide) (by decide) (by decide) (by decide)
  refine lj_newR (gbx BR (e := 1) (a := 141) (b := 5131) (by decide)) (L3 := SgR 2) (k := 0) (ci := 0) (stL_grow (by decide +kernel) (fun k' q => by simpa using evO_u (p := fun i => i == 0) (by decide) (show chK evR 0 1 (fun i => i == 0) = true by decide +kernel) k' q) (fun c j q => by have h := evG_u (p := fun _ _ => false) (by decide) (show chG efR 0 1 (fun _ _ => false) = true by decide +kernel) c j q; cases h)) ((stL_at (show evO evR 0 < 2 by decide +kernel)).trans lkR_0) clR_0 inR_0 toR_0 (dfR_0 2 (by decide +kernel)) (fun m hm => ?_) (fun m hm => ?_) (fun _ => rfl) q_1300 qn_1301 cq_m_init.2.1 ⟨hr1.1, by show xsn X + 5131 + 77 ≤ _; rw [Nat.add_assoc]; exact hr1.2⟩ d_law_8 ?_
  · exact (show m = wa wR 0 + evO cnR 1 from hm).symm
  · show m + 1 = wa wR 0 + evO cnR 2
    have hm : m = wa wR 0 + evO cnR 1 := hm
    have h1 : evO cnR 1 = 0 := by decide +kernel
    have h2 : evO cnR 2 = 1 := by decide +kernel
    omega
  rw [xInc_add]
  refine lj_dup G1 d_law_11 rfl ?_
  refine lj_callI (gbx BR (e := 2) (a := 142) (b := 5208) (by decide)) (L3 := SgR 102) (hd 102) (fun q h => (gbx BR (e := 102) (a := 142) (b := 5208) (by decide)).2.2.2.2.2.2.2.2.1.1 q h) (cn_m hwR) q_1302 cq_m_init rfl rfl ⟨by decide, by decide⟩ ⟨by show xcn X + 142 + 50 ≤ _; rw [Nat.add_assoc]; exact hr2.1, by show xsn X + 5208 + 4167 ≤ _; rw [Nat.add_assoc]; exact hr2.2⟩ (Nat.le_of_ble_eq_true rfl) d_law_12 rfl ?_
  rw [xInc_add]
  refine lj_astore_n G2 (lv2 := [(2, .ref (wa wR 0)), (1, .ref (wa w 0)), (0, .ref b)]) d_law_15 rfl (by decide) rfl ?_
  refine lj_iconst G2 (v := 0) d_law_16 rfl ?_
  refine lj_istore_n G2 (lv2 := [(3, .int (i32 0)), (2, .ref (wa wR 0)), (1, .ref (wa w 0)), (0, .ref b)]) d_law_17 rfl (by decide) rfl ?_
  refine lj_sub [3, 2, 1, 0] rfl ?_
  refine lj_to (L3 := LR) (w' := w) (w2 := wR) (M' := MB) (N' := NB) (fun H hP hR => ⟨hP, rp_R9 hR⟩) ?_
  exact law_loop B R S 70000 (Nat.le_refl _) hL hend z 0 192 9375 w MB NB (by omega) (by decide) (by decide) (by decide) I J_born
set_option maxHeartbeats 8000000 in
set_option maxRecDepth 100000 in
theorem whole_start {p : Program} {e : Env} {s : State} {m : MethodId} {below : List Frame} {meth : Method} {c : Code} (l : Launch) (hflags : l.flags = flags0) {b L : Nat} {xs : Nat → Int32} (hL : L ≤ 3072) (C0 : lw_At p s m meth c b L xs) : W p l e room_1 s m #[Value.ref b] below meth c s.heap [] 0 0 (lw_Z below #[Value.ref b] s) (entryFrame m ([Value.ref b] : List Value).toArray 4) := by
  obtain ⟨hx, hb, hr, hml, hown, hts, hX, hbl, hlocks, hgv⟩ := id C0
  have hALL : ∀ c ∈ ALL, c.before #[Value.ref b] s = true := fun c hc => hts c (List.mem_filter.mp hc).1
  obtain ⟨DC, hDC⟩ := st_C hALL hts
  obtain ⟨DR, hDR⟩ := st_R hALL hts
  obtain ⟨T, hT⟩ := st_T hts
  obtain ⟨ad, had⟩ := st_X hts hgv
  obtain ⟨X, hXe⟩ : ∃ X : Cx, X = ((p, l, e, room_1), (s, m, #[Value.ref b], below), (meth, c, 0, 0, (fun q => s.heap.size ≤ q), (fun _ _ _ => lw_Z below #[Value.ref b] s))) := ⟨_, rfl⟩
  have B : BL X := by rw [hXe]; exact ⟨hx, hb, hml, hown, hALL, hlocks, rfl, rfl, rfl, rfl⟩
  have hS : LwS X b L xs := by rw [hXe]; exact ⟨hX, hbl, rfl⟩
  have hwC : WCC (wC0 DC T ad s.heap.size) := wcc0
  have hwR : WCR (wR0 DR T ad (s.heap.size + 141)) := wcr0
  have hKC : va_K (wD (wC0 DC T ad s.heap.size)) clsC (tys (wC0 DC T ad s.heap.size)) s := ⟨hDC, hT (wC0 DC T ad s.heap.size) rfl⟩
  have hKR : va_K (wD (wR0 DR T ad (s.heap.size + 141))) clsR (tys (wR0 DR T ad (s.heap.size + 141))) s := ⟨hDR, hT (wR0 DR T ad (s.heap.size + 141)) rfl⟩
  have hKX : KXG (fun q => s.heap.size ≤ q) (wC0 DC T ad s.heap.size) s := had _ rfl
  have hKXC : KXC (wC0 DC T ad s.heap.size) s := by
    have h : KXG (Aw LC0 (wC0 DC T ad s.heap.size)) (wC0 DC T ad s.heap.size) s := hKX.nar (fun q h => (aw_C0 h).1)
    exact h
  have I : LIw X (wC0 DC T ad s.heap.size) (wR0 DR T ad (s.heap.size + 141)) := by
    rw [hXe]
    exact ⟨hwC.1, hKC, hKX, fun q h => (aw_C0 h).1, fun q h h2 => by have h3 := aw_R0 h; have h4 := aw_C0 h2; omega⟩
  have R : RI X (wR0 DR T ad (s.heap.size + 141)) := by
    rw [hXe]
    exact ⟨hwR.1, hKR, fun q h => by have h3 := aw_R0 h; show s.heap.size ≤ q; omega⟩
  have BC := gb_C (X := X) (w := wC0 DC T ad s.heap.size) B hwC.1 (by rw [hXe]; exact hKC) (by rw [hXe]; exact st_9 hts hKXC) (fun q h => I.2.2.2.1 q h)
  have BR := gb_R (X := X) (w := wR0 DR T ad (s.heap.size + 141)) B hwR.1 (by rw [hXe]; exact hKR) R.2.2
  have hend : ∀ (a c : Nat) (w : Wd) (M N : Mm) (lv : List (Nat × Value)), a ≤ 600000 → c ≤ 7302250 → LIw X w (wR0 DR T ad (s.heap.size + 141)) → LJ LR (xInc X a c) w (wR0 DR T ad (s.heap.size + 141)) M N lv [] 1568 := by
    intro a c9 w2 M N lv ha hc I2
    refine lj_iconst (gl_C B I2 ⟨ha, hc⟩) (v := 1) d_law_1568 rfl ?_
    intro H locs ls hP hR hS9 hl
    rw [hXe] at hS9 ⊢
    show W p l e room_1 s m #[Value.ref b] below meth c H locs (0 + a) (0 + c9) (lw_Z below #[Value.ref b] s) (F0 m 1569 ls [.int 1])
    refine W.widen (k := 600000) (n := 7302250) (by omega) (by omega) ?_
    have k2 : W p l e room_1 s m #[Value.ref b] below meth c H ([] ++ locs) 600000 7302250 (lw_Z below #[Value.ref b] s) (F0 m 1569 ls [.int 1]) := W.forget (fun q hq => hS9.2.2 q hq) (lw_ret hx hb hr hlocks d_law_1569)
    rw [List.nil_append] at k2
    exact k2
  have hl := lv_entry ([.ref b]) (n := 4) (Nat.le_of_ble_eq_true rfl)
  rw [lg_entry_eq]
  have V : VJ (SgC 1) (wC0 DC T ad s.heap.size) (xInc X 0 0) 4 0 0 Z0 Z0 [(0, .ref b)] [] 0 := by
    refine sn_o BC (e := 1) (e' := 2) (a := 0) (a' := 1) (b := 0) (b' := 12) (k := 0) (ci := 6) (by decide) lkC_0 (by decide +kernel) (by decide +kernel) (by decide +kernel) (by decide +kernel) (wof hwC.2.1 (by decide +kernel)) (fun _ => rfl) clC_6 inC_6 toC_6 (dfC_6 2 (by decide +kernel)) q_130 qn_131 cq_W_init.2.1 d_law_0 ?_
    refine vj_dup (gbx BC (e := 2) (a := 1) (b := 12) (by decide)) d_law_3 rfl ?_
    refine sn_c BC (e := 2) (e' := 123) (a := 1) (a' := 141) (b := 12) (b' := 5131) (by decide) (cn_W hwC) q_132 cq_W_init rfl rfl (by decide) (Nat.le_of_ble_eq_true rfl) d_law_4 rfl ?_
    refine vj_astore_n (gbx BC (e := 123) (a := 141) (b := 5131) (by decide)) (lv2 := [(1, .ref (wa (wC0 DC T ad s.heap.size) 0)), (0, .ref b)]) d_law_7 rfl (by decide) rfl ?_
    intro H locs ls hP hS9 hl9
    have hz : H.size = s.heap.size + 141 := by
      have h1 : H.size = s.heap.size + 0 + evO cnC 123 := hP.2.2.2.2.2
      rw [h1, show evO cnC 123 = 141 by decide +kernel]
    have K := law_second B I R hwR BR hS hL hend H locs ls (rp_C9 hP) (rp_R1 hz) hS9 hl9
    rw [hXe] at K ⊢
    exact K
  have k := V s.heap [] _ (rp_C1 rfl) (by rw [hXe]; exact va_S.rf) hl
  rw [hXe] at k
  exact k
