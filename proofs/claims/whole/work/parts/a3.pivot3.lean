/-! pivot(..): the reference; the call. -/
section
variable {σ : Mm} {M N : Mm}
/-- h is in block b, and counts in firm f -/
def inBk (σ : Mm) (rb V : Nat → Int) (G : Int) (b h : Nat) : Prop := (h : Int) < σ 0 1 ∧ voN σ rb h = b ∧ (0 < V h ∨ G = (h : Int))
def exBk (σ : Mm) (rb V : Nat → Int) (G : Int) (b : Nat) : Prop := ∃ h, inBk σ rb V G b h
noncomputable def OBk (σ : Mm) (rb V : Nat → Int) (G : Int) (mine b : Nat) : Bool := @decide (b ≠ mine ∧ exBk σ rb V G b) (Classical.propDecidable _)
theorem OBk_t {rb V : Nat → Int} {G : Int} {mine b : Nat} : OBk σ rb V G mine b = true ↔ (b ≠ mine ∧ exBk σ rb V G b) := by
  unfold OBk
  exact @decide_eq_true_iff _ (Classical.propDecidable _)
theorem OBk_f {rb V : Nat → Int} {G : Int} {mine b : Nat} (h : ¬ (b ≠ mine ∧ exBk σ rb V G b)) : OBk σ rb V G mine b = false := by
  cases c : OBk σ rb V G mine b with
  | false => rfl
  | true => exact absurd (OBk_t.mp c) h
def gBk (σ : Mm) (rb : Nat → Int) (G : Int) (b : Nat) : Bool := decide (0 ≤ G) && decide (voN σ rb G.toNat = b)
/-- the reference's blocks -/
def BLN (r : Nat → Int) (σ : Mm) (rb V : Nat → Int) (G : Int) : Prop := ∀ b, b < 16 → inR (r b) ∧ ∀ i, bI (r b) i = true ↔ inBk σ rb V G b i
theorem BLN_0 (hI : Inv σ) {r : Nat → Int} {rb V : Nat → Int} {G : Int} (h : BLN r σ rb V G) {b : Nat} (hb : b < 16) : r b = 0 ↔ ¬ exBk σ rb V G b := by
  have bh := hI.1.2.1
  rw [bI_eq0 (h b hb).1]
  constructor
  · rintro q ⟨i, hi⟩
    have := q i (by have := hi.1; omega)
    rw [((h b hb).2 i).mpr hi] at this
    cases this
  · intro q k hk
    cases c : bI (r b) k with
    | false => rfl
    | true => exact absurd ⟨k, ((h b hb).2 k).mp c⟩ q
theorem l_m_pv49 (n : Nat) (hn : 3000 ≤ n) (hI : Inv σ) {rb V : Nat → Int} {G : Int} (hrb : ∀ x, rb x = -5 ∨ (0 ≤ rb x ∧ rb x < σ 0 1)) {f h0 : Nat} (hf : f < 16) (hh0 : (h0 : Int) < σ 0 1) : ∀ (k h g : Nat) (N : Mm), h + k = (σ 0 1).toNat → k < g → AgR N σ → RBy N σ rb → (∀ i : Nat, (i : Int) < σ 0 1 → N 24 (16 * f + i) = V i) → N 28 f = (if G < 0 then -1 else G) → (∀ b, b < 16 → inR (N 36 b) ∧ ∀ i, bI (N 36 b) i = true ↔ (i < h ∧ inBk σ rb V G b i)) → ∃ N', lp_m_pivot_49 n g f h0 h N = (if N' 36 (voN σ rb h0) ≠ 0 then lp_m_pivot_126 n n f h0 (N' 36 (voN σ rb h0)) 0 0 N' else some (0, N')) ∧ Fr cdR [36] N N' ∧ BLN (N' 36) σ rb V G := by
  have bh := hI.1.2.1
  intro k
  induction k with
  | zero =>
    intro h g N hh hg hA hR h24 h28 h36
    obtain ⟨g', rfl, _⟩ := f_pos hg
    have e : h = (σ 0 1).toNat := by omega
    subst e
    show ∃ N', f_m_pivot_49 n (lp_m_pivot_49 n g') f h0 _ N = _ ∧ _
    have hv := voN_in hrb hh0
    unfold f_m_pivot_49
    rw [ifp (by rw [hA 0 1 rfl]; omega), e_m_headOf n hn hI hA hR hh0, bnd_mk, ckp (by omega), Int.toNat_natCast]
    exact ⟨N, rfl, Fr.rf, fun b hb => ⟨(h36 b hb).1, fun i => ((h36 b hb).2 i).trans ⟨fun q => q.2, fun q => ⟨by have := q.1; omega, q⟩⟩⟩⟩
  | succ k ih =>
    intro h g N hh hg hA hR h24 h28 h36
    obtain ⟨g', rfl, hg'⟩ := f_pos hg
    show ∃ N', f_m_pivot_49 n (lp_m_pivot_49 n g') f h0 h N = _ ∧ _
    have hv := voN_in hrb (h := h) (by omega)
    have skip : ¬ (0 < V h ∨ G = (h : Int)) → ∃ N', lp_m_pivot_49 n g' f h0 ((h + 1 : Nat) : Int) N = (if N' 36 (voN σ rb h0) ≠ 0 then lp_m_pivot_126 n n f h0 (N' 36 (voN σ rb h0)) 0 0 N' else some (0, N')) ∧ Fr cdR [36] N N' ∧ BLN (N' 36) σ rb V G := fun w => ih (h + 1) g' N (by omega) hg' hA hR h24 h28 fun b hb => ⟨(h36 b hb).1, fun i => ((h36 b hb).2 i).trans ⟨fun q => ⟨by omega, q.2⟩, fun q => ⟨by
      by_cases z : i = h
      · subst z; exact absurd q.2.2.2 w
      · omega, q.2⟩⟩⟩
    have take : (0 < V h ∨ G = (h : Int)) → ∃ N', f_m_pivot_81 n (lp_m_pivot_49 n g') f h0 h N = (if N' 36 (voN σ rb h0) ≠ 0 then lp_m_pivot_126 n n f h0 (N' 36 (voN σ rb h0)) 0 0 N' else some (0, N')) ∧ Fr cdR [36] N N' ∧ BLN (N' 36) σ rb V G := fun w => by
      unfold f_m_pivot_81 f_m_pivot_97
      rw [e_m_headOf n hn hI hA hR (h := h) (by omega), bnd_mk, ckp (by omega), ckp (by omega), Int.toNat_natCast, w_succ (by omega)]
      have fr : Fr cdR [36] N (mset N 36 (voN σ rb h) (ior (N 36 (voN σ rb h)) (ish 1 h))) := Fr.rf.set rfl
      obtain ⟨N2, k1, k2, k3⟩ := ih (h + 1) g' _ (by omega) hg' (hA.fr fr (by decide)) (hR.fr fr rfl) (fun i hi => by rw [fr 24 _ rfl]; exact h24 i hi) (by rw [fr 28 f rfl]; exact h28) (fun b hb => by
        by_cases z : b = voN σ rb h
        · subst z
          rw [mg_s]
          refine ⟨ir_or _ _, fun i => ?_⟩
          rw [bI_or, Bool.or_eq_true, (h36 _ hb).2 i, bI_bit (by omega), decide_eq_true_eq]
          constructor
          · rintro (q | q)
            · exact ⟨by omega, q.2⟩
            · subst q; exact ⟨by omega, by omega, rfl, w⟩
          · rintro ⟨q1, q2⟩
            by_cases y : i = h
            · exact Or.inr y
            · exact Or.inl ⟨by omega, q2⟩
        · rw [mg_j _ _ _ z]
          refine ⟨(h36 b hb).1, fun i => ((h36 b hb).2 i).trans ⟨fun q => ⟨by omega, q.2⟩, fun q => ⟨?_, q.2⟩⟩⟩
          by_cases y : i = h
          · subst y; exact absurd q.2.2.1.symm z
          · omega)
      exact ⟨N2, k1, fr.trans k2, k3⟩
    unfold f_m_pivot_49 f_m_pivot_97
    rw [ifn (by rw [hA 0 1 rfl]; omega), show w32 ((w32 (16 * (f : Int))) + (h : Int)) = ((16 * f + h : Nat) : Int) by rw [w32_s (x := 16 * (f : Int)) (by omega) (by omega), w32_s (by omega) (by omega)]; omega, ckp (by omega), Int.toNat_natCast, h24 h (by omega), w_succ (show h < 2000000000 by omega)]
    by_cases c : 0 < V h
    · rw [ifp c]; exact take (Or.inl c)
    · rw [ifn c, ckp (by omega), Int.toNat_natCast, h28]
      by_cases c2 : G = (h : Int)
      · rw [ifn (show ¬ G < 0 by omega), ifn (fun z => z c2)]
        exact take (Or.inr c2)
      · rw [ifp (show (if G < 0 then (-1 : Int) else G) ≠ (h : Int) by split <;> omega)]
        exact skip fun z => z.elim c c2
theorem l_m_pv126 (n : Nat) (hn : 3000 ≤ n) (hI : Inv σ) {rb V : Nat → Int} {G : Int} (hrb : ∀ x, rb x = -5 ∨ (0 ≤ rb x ∧ rb x < σ 0 1)) (f : Nat) {h0 : Nat} (hh0 : (h0 : Int) < σ 0 1) (x3 : Int) : ∀ (k b g : Nat) (N : Mm), b + k = (σ 0 1).toNat → k < g → AgR N σ → RBy N σ rb → BLN (N 36) σ rb V G → (∀ b', b' < b → OBk σ rb V G (voN σ rb h0) b' = true → N 37 (cn b' (OBk σ rb V G (voN σ rb h0))) = N 36 b') → ∃ N', lp_m_pivot_126 n g f h0 x3 (cn b (OBk σ rb V G (voN σ rb h0))) b N = lp_m_pivot_187 n n f x3 (cn (σ 0 1).toNat (OBk σ rb V G (voN σ rb h0))) 0 0 N' ∧ Fr cdR [37] N N' ∧ ∀ b' : Nat, (b' : Int) < σ 0 1 → OBk σ rb V G (voN σ rb h0) b' = true → N' 37 (cn b' (OBk σ rb V G (voN σ rb h0))) = N' 36 b' := by
  have bh := hI.1.2.1
  intro k
  induction k with
  | zero =>
    intro b g N hb hg hA hR hB h37
    obtain ⟨g', rfl, _⟩ := f_pos hg
    have e : b = (σ 0 1).toNat := by omega
    subst e
    show ∃ N', f_m_pivot_126 n (lp_m_pivot_126 n g') f h0 x3 _ _ N = _ ∧ _
    unfold f_m_pivot_126
    rw [ifp (by rw [hA 0 1 rfl]; omega)]
    exact ⟨N, rfl, Fr.rf, fun b' h1 h2 => h37 b' (by omega) h2⟩
  | succ k ih =>
    intro b g N hb hg hA hR hB h37
    obtain ⟨g', rfl, hg'⟩ := f_pos hg
    show ∃ N', f_m_pivot_126 n (lp_m_pivot_126 n g') f h0 x3 _ b N = _ ∧ _
    have hle := cn_le (OBk σ rb V G (voN σ rb h0)) b
    have h0b := BLN_0 hI hB (b := b) (by omega)
    have skip : OBk σ rb V G (voN σ rb h0) b = false → ∃ N', lp_m_pivot_126 n g' f h0 x3 (cn b (OBk σ rb V G (voN σ rb h0))) ((b + 1 : Nat) : Int) N = lp_m_pivot_187 n n f x3 (cn (σ 0 1).toNat (OBk σ rb V G (voN σ rb h0))) 0 0 N' ∧ Fr cdR [37] N N' ∧ ∀ b' : Nat, (b' : Int) < σ 0 1 → OBk σ rb V G (voN σ rb h0) b' = true → N' 37 (cn b' (OBk σ rb V G (voN σ rb h0))) = N' 36 b' := fun w => by
      have := ih (b + 1) g' N (by omega) hg' hA hR hB (fun b' h1 h2 => by
        by_cases z : b' = b
        · rw [z, w] at h2; cases h2
        · exact h37 b' (by omega) h2)
      rw [cn_f w] at this
      exact this
    unfold f_m_pivot_126 f_m_pivot_175
    rw [ifn (by rw [hA 0 1 rfl]; omega), ckp (by omega), Int.toNat_natCast, w_succ (show b < 2000000000 by omega)]
    by_cases c : N 36 b = 0
    · rw [ifp c]
      exact skip (OBk_f fun q => (h0b.mp c) q.2)
    · rw [ifn c, e_m_headOf n hn hI hA hR hh0, bnd_mk]
      by_cases c2 : b = voN σ rb h0
      · rw [ifn (show ¬ (b : Int) ≠ (voN σ rb h0 : Int) from fun z => z (by rw [← c2]))]
        exact skip (OBk_f fun q => q.1 c2)
      · have hO : OBk σ rb V G (voN σ rb h0) b = true := OBk_t.mpr ⟨c2, Classical.byContradiction fun q => c (h0b.mpr q)⟩
        rw [ifp (show (b : Int) ≠ (voN σ rb h0 : Int) by omega), ckp (by omega), ckp (by omega), w_succ (by omega), ← cn_t hO, Int.toNat_natCast]
        have fr : Fr cdR [37] N (mset N 37 (cn b (OBk σ rb V G (voN σ rb h0))) (N 36 b)) := Fr.rf.set rfl
        have e36 : mset N 37 (cn b (OBk σ rb V G (voN σ rb h0))) (N 36 b) 36 = N 36 := mg_k _ _ _ (by decide)
        obtain ⟨N2, k1, k2, k3⟩ := ih (b + 1) g' _ (by omega) hg' (hA.fr fr (by decide)) (hR.fr fr rfl) (by rw [e36]; exact hB) (fun b' h1 h2 => by
          rw [e36]
          by_cases z : b' = b
          · rw [z, mg_s]
          · rw [mg_j _ _ _ (fun q => z (cn_inj h2 hO q))]; exact h37 b' (by omega) h2)
        exact ⟨N2, k1, fr.trans k2, k3⟩
/-- the set of the chosen blocks -/
def SETv (x : Int) (σ : Mm) (rb V : Nat → Int) (G : Int) (mine v : Nat) : Prop := ∀ i, bI x i = true ↔ ∃ b, OBk σ rb V G mine b = true ∧ v.testBit (cn b (OBk σ rb V G mine)) = true ∧ inBk σ rb V G b i
theorem l_m_pv202 (n : Nat) (hn : 3000 ≤ n) (hI : Inv σ) (hA : AgR N σ) {d : Int} {own sn : Nat → Int} {rb V : Nat → Int} {G : Int} (hrb : ∀ x, rb x = -5 ∨ (0 ≤ rb x ∧ rb x < σ 0 1)) {f mine : Nat} (hf : (f : Int) < σ 0 1) (hT : RTx N σ d own sn f) (hB : BLN (N 36) σ rb V G) (h37 : ∀ b' : Nat, (b' : Int) < σ 0 1 → OBk σ rb V G mine b' = true → N 37 (cn b' (OBk σ rb V G mine)) = N 36 b') (k187 : Int → Int → Int → Int → Int → Mm → Rr) (x3 : Int) {c v : Nat} (hc : c < 100000) (hv : v < 65536) : ∀ (k j g : Nat) (x : Int), j + k = cn (σ 0 1).toNat (OBk σ rb V G mine) → k < g → (∀ i, bI x i = true ↔ ∃ b, OBk σ rb V G mine b = true ∧ cn b (OBk σ rb V G mine) < j ∧ v.testBit (cn b (OBk σ rb V G mine)) = true ∧ inBk σ rb V G b i) → ∃ x' : Int, SETv x' σ rb V G mine v ∧ lp_m_pivot_202 n k187 g f x3 (cn (σ 0 1).toNat (OBk σ rb V G mine)) c v x j N = k187 f x3 (cn (σ 0 1).toNat (OBk σ rb V G mine)) ((c + (if carB σ d own sn f (fun h => bI (ior x' x3) h) = true ∧ ¬ carB σ d own sn f (fun h => bI x' h) = true then 1 else 0) : Nat) : Int) ((v + 1 : Nat) : Int) N := by
  have bh := hI.1.2.1
  have hle := cn_le (OBk σ rb V G mine) (σ 0 1).toNat
  have hex : ∀ b, OBk σ rb V G mine b = true → (b : Int) < σ 0 1 := fun b hb => by
    obtain ⟨h, h1, h2, _⟩ := (OBk_t.mp hb).2
    rw [← h2]; exact voN_in hrb h1
  intro k
  induction k with
  | zero =>
    intro j g x hj hg hx
    obtain ⟨g', rfl, _⟩ := f_pos hg
    refine ⟨x, fun i => (hx i).trans ⟨fun ⟨b, b1, _, b2⟩ => ⟨b, b1, b2⟩, fun ⟨b, b1, b2⟩ => ⟨b, b1, ?_, b2⟩⟩, ?_⟩
    · have := cn_lt (p := OBk σ rb V G mine) (show b < (σ 0 1).toNat by have := hex b b1; omega) b1
      omega
    · show f_m_pivot_202 n k187 (lp_m_pivot_202 n k187 g') _ _ _ _ _ _ _ N = _
      unfold f_m_pivot_202 f_m_pivot_270 f_m_pivot_271
      rw [ifp (by omega), e_m_carries n hn hI hA hf hT, bnd_mk, w_succ (show v < 2000000000 by omega)]
      by_cases q1 : carB σ d own sn f (fun h => bI (ior x x3) h) = true
      · rw [ifp q1, i1, e_m_carries n hn hI hA hf hT, bnd_mk]
        by_cases q2 : carB σ d own sn f (fun h => bI x h) = true
        · rw [ifp q2, n1, ifn (show ¬ (carB σ d own sn f (fun h => bI (ior x x3) h) = true ∧ ¬ carB σ d own sn f (fun h => bI x h) = true) from fun z => z.2 q2), w32_s (by omega) (by omega)]; rfl
        · rw [ifn q2, n0, ifp (show carB σ d own sn f (fun h => bI (ior x x3) h) = true ∧ ¬ carB σ d own sn f (fun h => bI x h) = true from ⟨q1, q2⟩), w32_s (by omega) (by omega)]; rfl
      · rw [ifn q1, i0, ifn (show ¬ (carB σ d own sn f (fun h => bI (ior x x3) h) = true ∧ ¬ carB σ d own sn f (fun h => bI x h) = true) from fun z => q1 z.1), w32_s (by omega) (by omega)]; rfl
  | succ k ih =>
    intro j g x hj hg hx
    obtain ⟨g', rfl, hg'⟩ := f_pos hg
    obtain ⟨bj, b1, b2, b3⟩ := cn_nth (p := OBk σ rb V G mine) (a := j) (k := (σ 0 1).toNat) (by omega)
    have e37 := h37 bj (by omega) b2
    rw [b3] at e37
    have e : lp_m_pivot_202 n k187 (g' + 1) f x3 (cn (σ 0 1).toNat (OBk σ rb V G mine)) c v x j N = lp_m_pivot_202 n k187 g' f x3 (cn (σ 0 1).toNat (OBk σ rb V G mine)) c v (if v.testBit j = true then ior x (N 36 bj) else ior x 0) ((j + 1 : Nat) : Int) N := by
      show f_m_pivot_202 n k187 (lp_m_pivot_202 n k187 g') _ _ _ _ _ _ _ N = _
      unfold f_m_pivot_202 f_m_pivot_233
      rw [ifn (by omega), bit_I (by omega), bI_nat, decide_eq_true (show j < 32 by omega), Bool.true_and, w_succ (show j < 2000000000 by omega), ckp (by omega), Int.toNat_natCast, e37]
      by_cases q : v.testBit j = true
      · rw [ifp q, ifn (show ¬ (1 : Int) ≠ 1 by decide), ifp q]
      · rw [ifn q, ifp (show (0 : Int) ≠ 1 by decide), ifn q]
    rw [e]
    refine ih (j + 1) g' _ (by omega) hg' fun i => ?_
    have step : (∃ b, OBk σ rb V G mine b = true ∧ cn b (OBk σ rb V G mine) < j + 1 ∧ v.testBit (cn b (OBk σ rb V G mine)) = true ∧ inBk σ rb V G b i) ↔ ((∃ b, OBk σ rb V G mine b = true ∧ cn b (OBk σ rb V G mine) < j ∧ v.testBit (cn b (OBk σ rb V G mine)) = true ∧ inBk σ rb V G b i) ∨ (v.testBit j = true ∧ inBk σ rb V G bj i)) := by
      constructor
      · rintro ⟨b, q1, q2, q3, q4⟩
        by_cases z : cn b (OBk σ rb V G mine) = j
        · have : b = bj := cn_inj q1 b2 (by rw [z, b3])
          subst this
          rw [z] at q3
          exact Or.inr ⟨q3, q4⟩
        · exact Or.inl ⟨b, q1, by omega, q3, q4⟩
      · rintro (⟨b, q1, q2, q3, q4⟩ | ⟨q1, q2⟩)
        · exact ⟨b, q1, by omega, q3, q4⟩
        · exact ⟨bj, b2, by omega, by rw [b3]; exact q1, q2⟩
    rw [step]
    by_cases q : v.testBit j = true
    · rw [ifp q, bI_or, Bool.or_eq_true, hx i, (hB bj (by omega)).2 i]
      exact or_congr Iff.rfl ⟨fun z => ⟨q, z⟩, fun z => z.2⟩
    · rw [ifn q, bI_or, bI_0, Bool.or_false, hx i]
      exact ⟨Or.inl, fun z => z.elim id fun z => absurd z.1 q⟩
/-- a turn is a set whose votes are within -/
theorem turn_iff (hI : Inv σ) {d : Int} {own sn : Nat → Int} {rb : Nat → Int} (hrb : ∀ x, rb x = -5 ∨ (0 ≤ rb x ∧ rb x < σ 0 1)) {f mine : Nat} {x y : Int} {v : Nat} (hx : SETv x σ rb (Vt σ d own sn f) (gd σ f d) mine v) (hy : ∀ i, bI y i = true ↔ inBk σ rb (Vt σ d own sn f) (gd σ f d) mine i) : (carB σ d own sn f (fun h => bI (ior x y) h) = true ∧ ¬ carB σ d own sn f (fun h => bI x h) = true) ↔ phS (OBk σ rb (Vt σ d own sn f) (gd σ f d) mine) (gBk σ rb (gd σ f d)) (bsS σ (voN σ rb) (Vt σ d own sn f) (σ 0 1).toNat) 16 (tf σ d own sn f + 1 - bsS σ (voN σ rb) (Vt σ d own sn f) (σ 0 1).toNat mine) (if 0 ≤ gd σ f d ∧ voN σ rb (gd σ f d).toNat = mine then sm 16 (fun b => if OBk σ rb (Vt σ d own sn f) (gd σ f d) mine b = true then bsS σ (voN σ rb) (Vt σ d own sn f) (σ 0 1).toNat b else 0) else tf σ d own sn f) v = true := by
  have bh := hI.1.2.1
  have hV := Vt_in hI d own sn f
  have hGd := gd_in σ f d
  have hbs := bsS_in (σ := σ) (vo := voN σ rb) hV (k := (σ 0 1).toNat) (by omega)
  unfold carB
  generalize Vt σ d own sn f = V at hx hy hV hbs ⊢
  generalize hGe : gd σ f d = G at hx hy hGd ⊢
  generalize hs : bsS σ (voN σ rb) V (σ 0 1).toNat = s at hbs ⊢
  generalize hO : OBk σ rb V G mine = O at ⊢
  have hOt : ∀ b, O b = true ↔ (b ≠ mine ∧ exBk σ rb V G b) := fun b => by rw [← hO]; exact OBk_t
  have hx' : ∀ i : Nat, (i : Int) < σ 0 1 → (bI x i = true ↔ ((O (voN σ rb i) && v.testBit (cn (voN σ rb i) O)) = true ∧ (0 < V i ∨ G = (i : Int)))) := fun i hi => by
    rw [hx i, hO, Bool.and_eq_true]
    exact ⟨fun ⟨b, b1, b2, b3⟩ => by rw [b3.2.1]; exact ⟨⟨b1, b2⟩, b3.2.2⟩, fun q => ⟨voN σ rb i, q.1.1, q.1.2, hi, rfl, q.2⟩⟩
  have hy' : ∀ i : Nat, (i : Int) < σ 0 1 → (bI y i = true ↔ (voN σ rb i = mine ∧ (0 < V i ∨ G = (i : Int)))) := fun i hi => by
    rw [hy i]
    exact ⟨fun q => q.2, fun q => ⟨hi, q⟩⟩
  have hvo : ∀ h, h < (σ 0 1).toNat → voN σ rb h < 16 := fun h hh => by have := voN_in hrb (h := h) (by omega); omega
  have hOm : O mine = false := by
    cases c : O mine with
    | false => rfl
    | true => exact absurd rfl ((hOt mine).mp c).1
  have s1 : sm (σ 0 1).toNat (fun h => if bI x h = true then V h else 0) = SbS O s 16 v := by
    have e1 : sm (σ 0 1).toNat (fun h => if bI x h = true then V h else 0) = sm (σ 0 1).toNat (fun h => if (fun b => O b && v.testBit (cn b O)) (voN σ rb h) = true then V h else 0) := sm_congr fun i hi => by
      have := hx' i (by omega)
      have hVi := hV i
      by_cases c : bI x i = true
      · rw [ifp c, ifp (this.mp c).1]
      · rw [ifn c]
        by_cases c2 : (O (voN σ rb i) && v.testBit (cn (voN σ rb i) O)) = true
        · rw [ifp c2]
          have : ¬ 0 < V i := fun q => c (this.mpr ⟨c2, Or.inl q⟩)
          omega
        · rw [ifn c2]
    rw [e1, sm_swap V (voN σ rb) (fun b => O b && v.testBit (cn b O)) (m := 16) _ hvo, ← hs]
    rfl
  have s2 : sm (σ 0 1).toNat (fun h => if bI (ior x y) h = true then V h else 0) = SbS O s 16 v + s mine := by
    by_cases hm16 : mine < 16
    · have e1 : sm (σ 0 1).toNat (fun h => if bI (ior x y) h = true then V h else 0) = sm (σ 0 1).toNat (fun h => if (fun b => (O b && v.testBit (cn b O)) || decide (b = mine)) (voN σ rb h) = true then V h else 0) := sm_congr fun i hi => by
        have q1 := hx' i (by omega)
        have q2 := hy' i (by omega)
        have hVi := hV i
        have q3 : bI (ior x y) i = true ↔ (((O (voN σ rb i) && v.testBit (cn (voN σ rb i) O)) || decide (voN σ rb i = mine)) = true ∧ (0 < V i ∨ G = (i : Int))) := by
          rw [bI_or, Bool.or_eq_true, Bool.or_eq_true, decide_eq_true_eq, q1, q2, or_and_right]
        by_cases c : bI (ior x y) i = true
        · rw [ifp c, ifp (q3.mp c).1]
        · rw [ifn c]
          by_cases c2 : ((O (voN σ rb i) && v.testBit (cn (voN σ rb i) O)) || decide (voN σ rb i = mine)) = true
          · rw [ifp c2]
            have : ¬ 0 < V i := fun q => c (q3.mpr ⟨c2, Or.inl q⟩)
            omega
          · rw [ifn c2]
      rw [e1, sm_swap V (voN σ rb) (fun b => (O b && v.testBit (cn b O)) || decide (b = mine)) (m := 16) _ hvo]
      have e2 : sm 16 (fun b => if ((O b && v.testBit (cn b O)) || decide (b = mine)) = true then sm (σ 0 1).toNat (fun h => if voN σ rb h = b then V h else 0) else 0) = sm 16 (fun b => (if (O b && v.testBit (cn b O)) = true then s b else 0) + (if b = mine then s mine else 0)) := sm_congr fun b _ => by
        have e3 : sm (σ 0 1).toNat (fun h => if voN σ rb h = b then V h else 0) = s b := by rw [← hs]; rfl
        rw [e3]
        by_cases z : b = mine
        · subst z
          rw [hOm, decide_eq_true rfl, ifp rfl, Bool.false_and, ifp (by decide), ifn (by decide), Int.zero_add]
        · rw [decide_eq_false z, Bool.or_false, ifn z, Int.add_zero]
      rw [e2, sm_add, sm_pt _ _ hm16]
      rfl
    · have e0 : s mine = 0 := by
        rw [← hs]
        exact sm_zero fun i hi => by
          have := hvo i hi
          rw [ifn (by omega)]
      rw [e0, Int.add_zero, ← s1]
      refine sm_congr fun i hi => ?_
      have q2 := hy' i (by omega)
      have q4 : bI y i = false := by
        cases c : bI y i with
        | false => rfl
        | true => have := (q2.mp c).1; have := hvo i hi; omega
      rw [bI_or, q4, Bool.or_false]
  have hS0 : SbS O s 16 v ≤ sm 16 (fun b => if O b = true then s b else 0) := sm_le fun b _ => by
    have := hbs b
    cases O b <;> cases v.testBit (cn b O) <;> simp <;> omega
  simp only [s1, s2]
  rw [phS_t, Bool.and_eq_true, Bool.and_eq_true, decide_eq_true_eq, decide_eq_true_eq, Bool.or_eq_true, Bool.or_eq_true, decide_eq_true_eq]
  have hsm := hbs mine
  generalize SbS O s 16 v = S at hS0 ⊢
  rcases hGd with c | c
  · have hgB : ∀ b, gBk σ rb G b = false := fun b => by unfold gBk; rw [decide_eq_false (by omega)]; rfl
    rw [ifn (show ¬ (0 ≤ G ∧ voN σ rb G.toNat = mine) by omega)]
    constructor
    · rintro ⟨q1, q2⟩
      have : ¬ tf σ d own sn f < S := fun w => q2 ⟨w, Or.inl (by omega)⟩
      exact ⟨fun g _ _ hB => absurd hB (by rw [hgB g]; decide), by omega, by omega⟩
    · rintro ⟨q1, q2, q3⟩
      exact ⟨⟨by omega, Or.inl (by omega)⟩, fun w => by omega⟩
  · obtain ⟨g, hg⟩ := nat_of c.1
    have q1 := hx' g (by omega)
    have q2 := hy' g (by omega)
    subst hg
    simp only [Int.toNat_natCast]
    have hneg : ¬ ((g : Int) < 0) := by omega
    by_cases c2 : voN σ rb g = mine
    · rw [ifp ⟨by omega, c2⟩]
      have b1 : bI (ior x y) g = true := by rw [bI_or, Bool.or_eq_true]; exact Or.inr (q2.mpr ⟨c2, Or.inr rfl⟩)
      have b2 : ¬ bI x g = true := fun w => by have := (q1.mp w).1; rw [c2, hOm] at this; cases this
      constructor
      · rintro ⟨w1, w2⟩
        refine ⟨fun b _ hO2 hB => ?_, by omega, hS0⟩
        unfold gBk at hB
        rw [Int.toNat_natCast, Bool.and_eq_true, decide_eq_true_eq, decide_eq_true_eq] at hB
        rw [← hB.2, c2, hOm] at hO2; cases hO2
      · rintro ⟨w1, w2, w3⟩
        exact ⟨⟨by omega, Or.inr b1⟩, fun w => w.2.elim hneg b2⟩
    · rw [ifn (fun z => c2 z.2)]
      have hOg : O (voN σ rb g) = true := (hOt _).mpr ⟨c2, g, by omega, rfl, Or.inr rfl⟩
      have b2 : bI x g = true ↔ v.testBit (cn (voN σ rb g) O) = true := by
        rw [q1, hOg, Bool.true_and]
        exact ⟨fun w => w.1, fun w => ⟨w, Or.inr rfl⟩⟩
      have b1 : bI (ior x y) g = true ↔ v.testBit (cn (voN σ rb g) O) = true := by
        rw [bI_or, Bool.or_eq_true, b2]
        exact ⟨fun w => w.elim id fun w => absurd (q2.mp w).1 c2, Or.inl⟩
      rw [b1, b2]
      have hall : (∀ b, b < 16 → O b = true → gBk σ rb (g : Int) b = true → v.testBit (cn b O) = true) ↔ v.testBit (cn (voN σ rb g) O) = true := by
        constructor
        · intro w
          exact w (voN σ rb g) (hvo g (by omega)) hOg (by unfold gBk; rw [Int.toNat_natCast, decide_eq_true (show (0 : Int) ≤ (g : Int) by omega), decide_eq_true rfl]; rfl)
        · intro w b _ _ hB
          unfold gBk at hB
          rw [Int.toNat_natCast, Bool.and_eq_true, decide_eq_true_eq, decide_eq_true_eq] at hB
          rw [← hB.2]; exact w
      rw [hall]
      constructor
      · rintro ⟨w1, w2⟩
        have w3 := w1.2.resolve_left hneg
        have : ¬ tf σ d own sn f < S := fun w => w2 ⟨w, Or.inr w3⟩
        exact ⟨w3, by omega, by omega⟩
      · rintro ⟨w1, w2, w3⟩
        exact ⟨⟨by omega, Or.inr w1⟩, fun w => by omega⟩
end
