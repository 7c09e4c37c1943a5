/-! ring(..): walks that close; the class. -/
section
variable {σ : Mm} {M N : Mm}
/-- firm f has a part of firm o now -/
def eR (σ : Mm) (f o : Nat) : Prop := (f : Int) < σ 0 1 ∧ isF (σ 1) f = true ∧ 0 < hpt σ o f (σ 0 3).toNat
theorem eR_in (hI : Inv σ) {f o : Nat} (h : eR σ f o) : (o : Int) < σ 0 1 ∧ isF (σ 1) o = true := by
  obtain ⟨s, s1, s2, s3, s4⟩ := (hpt_pos hI).mp h.2.2
  have p := hI.2.1.2.2.2.1 s s1
  rw [s2] at p
  exact ⟨p.1.2.1, isF_of p.1.2.2⟩
/-- a walk of k + 1 steps from f to e, all between beyond e -/
def rwk (σ : Mm) (e : Nat) : Nat → Nat → Prop
  | 0, f => eR σ f e
  | k + 1, f => ∃ o, e < o ∧ eR σ f o ∧ rwk σ e k o
theorem rwk_F {e k f : Nat} (h : rwk σ e k f) : (f : Int) < σ 0 1 ∧ isF (σ 1) f = true := by
  cases k with
  | zero => exact ⟨h.1, h.2.1⟩
  | succ k => obtain ⟨o, _, h2, _⟩ := h; exact ⟨h2.1, h2.2.1⟩
/-- o is the least next one -/
def isLn (σ : Mm) (e r : Nat) (f o : Nat) : Prop := (e < o ∧ eR σ f o ∧ rwk σ e r o) ∧ ∀ o' : Nat, e < o' → eR σ f o' → rwk σ e r o' → o ≤ o'
theorem isLn_eq {e r f o o' : Nat} (h : isLn σ e r f o) (h' : isLn σ e r f o') : o = o' := by
  have h1 := h.2 o' h'.1.1 h'.1.2.1 h'.1.2.2
  have h2 := h'.2 o h.1.1 h.1.2.1 h.1.2.2
  omega
/-- a table of who has parts of whom -/
def ETb (r : Nat → Int) (σ : Mm) : Prop := ∀ f, f < 16 → inR (r f) ∧ ∀ o, bI (r f) o = true ↔ eR σ f o
/-- the path so far told, from told on -/
def pthC (r : Nat → Int) (σ : Mm) (e size told : Nat) : Prop := ∀ k : Nat, told ≤ k → k < size → ∃ f o : Nat, r (k - 1) = (f : Int) ∧ r k = (o : Int) ∧ isLn σ e (size - k - 1) f o
theorem e_F_closes (n : Nat) (hn : 3000 ≤ n) (hI : Inv σ) (e size : Nat) (he : (e : Int) < σ 0 1) (hs : size ≤ 7) : ∀ (r d told w f : Nat) (M : Mm), told + r = size → r < d → 1 ≤ told → RelC M σ → ETb (M 58) σ → M 59 0 = (e : Int) → M 59 (told - 1) = (f : Int) → f < 16 → ∃ z M', g_closes n d w told size M = some (z, M') ∧ Fr cdC [59] M M' ∧ (∀ j, j < told → M' 59 j = M 59 j) ∧ ((z ≠ 0 ∧ rwk σ e r f ∧ pthC (M' 59) σ e size told) ∨ (z = 0 ∧ ¬ rwk σ e r f)) := by
  have bh := hI.1.2.1
  have h7 : (cn (σ 0 1).toNat (isF (σ 1)) : Int) ≤ 7 := by have := hI.1.2.2.2.2.2; omega
  intro r
  induction r with
  | zero =>
    intro d told w f M hr hd ht hC hE h0 hf hf16
    obtain ⟨d', rfl, _⟩ := f_pos hd
    have e1 : told = size := by omega
    subst e1
    show ∃ z M', f_F_closes n (g_closes n d') told told M = _ ∧ _
    have hb := (hE f hf16).2 e
    unfold f_F_closes
    rw [ifn (by omega), ifp (by omega), show w32 ((told : Int) - 1) = ((told - 1 : Nat) : Int) by rw [w32_s (by omega) (by omega)]; omega, ckp (by omega), ifn (fun q => q rfl), Int.toNat_natCast, hf, ckp (by omega), Int.toNat_natCast, show (0 : Int).toNat = 0 from rfl, h0, bit_I (by omega)]
    by_cases c : bI (M 58 f) e = true
    · rw [ifp c, ifn (show ¬ (1 : Int) ≠ 1 by decide)]
      exact ⟨1, M, rfl, Fr.rf, fun _ _ => rfl, Or.inl ⟨by decide, hb.mp c, fun k h1 h2 => by omega⟩⟩
    · rw [ifn c, ifp (show (0 : Int) ≠ 1 by decide)]
      exact ⟨0, M, rfl, Fr.rf, fun _ _ => rfl, Or.inr ⟨rfl, fun q => c (hb.mpr q)⟩⟩
  | succ r ih =>
    intro d told w f M hr hd ht hC hE h0 hf hf16
    obtain ⟨d', rfl, hd'⟩ := f_pos hd
    show ∃ z M', f_F_closes n (g_closes n d') told size M = _ ∧ _
    have go : ∀ (k h g : Nat) (M : Mm), h + k = 16 → e < h → k < g → RelC M σ → ETb (M 58) σ → M 59 0 = (e : Int) → M 59 (told - 1) = (f : Int) → (∀ o : Nat, o < h → e < o → eR σ f o → ¬ rwk σ e r o) → ∃ z M', lp_F_closes_52 n (g_closes n d') g told size f h M = some (z, M') ∧ Fr cdC [59] M M' ∧ (∀ j, j < told → M' 59 j = M 59 j) ∧ ((z ≠ 0 ∧ rwk σ e (r + 1) f ∧ pthC (M' 59) σ e size told) ∨ (z = 0 ∧ ¬ rwk σ e (r + 1) f)) := by
      intro k
      induction k with
      | zero =>
        intro h g M hh heh hg hC hE h0 hf hN
        obtain ⟨g', rfl, _⟩ := f_pos hg
        show ∃ z M', f_F_closes_52 n (g_closes n d') (lp_F_closes_52 n (g_closes n d') g') told size f _ M = _ ∧ _
        unfold f_F_closes_52
        rw [ifp (show (16 : Int) ≤ (h : Int) by omega)]
        refine ⟨0, M, rfl, Fr.rf, fun _ _ => rfl, Or.inr ⟨rfl, fun q => ?_⟩⟩
        obtain ⟨o, o1, o2, o3⟩ := q
        exact hN o (by have := (eR_in hI o2).1; omega) o1 o2 o3
      | succ k ihk =>
        intro h g M hh heh hg hC hE h0 hf hN
        obtain ⟨g', rfl, hg'⟩ := f_pos hg
        show ∃ z M', f_F_closes_52 n (g_closes n d') (lp_F_closes_52 n (g_closes n d') g') told size f _ M = _ ∧ _
        have skip : ∀ M1 : Mm, Fr cdC [59] M M1 → (∀ j, j < told → M1 59 j = M 59 j) → (eR σ f h → ¬ rwk σ e r h) → ∃ z M', lp_F_closes_52 n (g_closes n d') g' told size f ((h + 1 : Nat) : Int) M1 = some (z, M') ∧ Fr cdC [59] M M' ∧ (∀ j, j < told → M' 59 j = M 59 j) ∧ ((z ≠ 0 ∧ rwk σ e (r + 1) f ∧ pthC (M' 59) σ e size told) ∨ (z = 0 ∧ ¬ rwk σ e (r + 1) f)) := fun M1 f1 hj hq => by
          obtain ⟨z, M2, k1, k2, k3, k4⟩ := ihk (h + 1) g' M1 (by omega) (by omega) hg' (hC.fr f1 (by decide)) (by rw [f1.row (k := 58) (fun _ => rfl)]; exact hE) (by rw [hj 0 (by omega)]; exact h0) (by rw [hj _ (by omega)]; exact hf) (fun o ho h1 h2 => by
            by_cases e1 : o = h
            · rw [e1] at h2 ⊢; exact hq h2
            · exact hN o (by omega) h1 h2)
          exact ⟨z, M2, k1, f1.trans k2, fun j hj2 => (k3 j hj2).trans (hj j hj2), k4⟩
        unfold f_F_closes_52 f_F_closes_97
        rw [ifn (show ¬ (16 : Int) ≤ (h : Int) by omega), ifn (show ¬ (7 : Int) ≤ (told : Int) by omega), ckp (by omega), Int.toNat_natCast, bit_I (show h < 32 by omega), w_succ (show h < 2000000000 by omega)]
        by_cases c2 : bI (M 58 f) h = true
        · have hfh := ((hE f hf16).2 h).mp c2
          rw [ifp c2, ifn (show ¬ (1 : Int) ≠ 1 by decide), ckp (by omega), w_succ (show told < 2000000000 by omega), Int.toNat_natCast]
          have fr : Fr cdC [59] M (mset M 59 told (h : Int)) := Fr.rf.set rfl
          have hjj : ∀ j, j < told → mset M 59 told (h : Int) 59 j = M 59 j := fun j hj => mg_j _ _ _ (by omega)
          obtain ⟨z, M2, k1, k2, k3, k4⟩ := ih d' (told + 1) 0 h (mset M 59 told (h : Int)) (by omega) (by omega) (by omega) (hC.fr fr (by decide)) (by rw [fr.row (k := 58) (fun _ => rfl)]; exact hE) (by rw [hjj 0 (by omega)]; exact h0) (mg_s _ _ _ _) (by omega)
          rw [k1, bnd_mk]
          rcases k4 with ⟨z1, z2, z3⟩ | ⟨z1, z2⟩
          · rw [ifn z1]
            refine ⟨1, M2, rfl, fr.trans k2, fun j hj => (k3 j (by omega)).trans (hjj j hj), Or.inl ⟨by decide, ⟨h, heh, hfh, z2⟩, fun k h1 h2 => ?_⟩⟩
            by_cases e1 : k = told
            · subst e1
              refine ⟨f, h, by rw [k3 _ (by omega), hjj _ (by omega)]; exact hf, by rw [k3 _ (by omega)]; exact mg_s _ _ _ _, ?_⟩
              rw [show size - k - 1 = r by omega]
              exact ⟨⟨heh, hfh, z2⟩, fun o' q1 q2 q3 => Classical.byContradiction fun q => hN o' (by omega) q1 q2 q3⟩
            · exact z3 k (by omega) h2
          · rw [ifp z1]
            exact skip M2 (fr.trans k2) (fun j hj => (k3 j (by omega)).trans (hjj j hj)) fun _ => z2
        · rw [ifn c2, ifp (show (0 : Int) ≠ 1 by decide)]
          exact skip M Fr.rf (fun _ _ => rfl) fun q => absurd (((hE f hf16).2 h).mpr q) c2
    have s := go (15 - e) (e + 1) n M (by omega) (by omega) (by omega) hC hE h0 hf (fun o h1 h2 _ _ => by omega)
    unfold f_F_closes
    rw [ifn (by omega), ifp (by omega), show w32 ((told : Int) - 1) = ((told - 1 : Nat) : Int) by rw [w32_s (by omega) (by omega)]; omega, ckp (by omega), ifp (by omega), Int.toNat_natCast, hf, show (0 : Int).toNat = 0 from rfl, h0, w_succ (show e < 2000000000 by omega)]
    exact s
/-- what the class finds -/
def rngC (M σ : Mm) (size : Nat) : Prop := (size = 0 ∧ ∀ k e : Nat, k < cn (σ 0 1).toNat (isF (σ 1)) → ¬ rwk σ e k e) ∨ ((1 ≤ size ∧ size ≤ cn (σ 0 1).toNat (isF (σ 1))) ∧ (∀ k e : Nat, k + 1 < size → ¬ rwk σ e k e) ∧ ∃ e : Nat, M 59 0 = (e : Int) ∧ rwk σ e (size - 1) e ∧ (∀ e' : Nat, e' < e → ¬ rwk σ e' (size - 1) e') ∧ pthC (M 59) σ e size 1)
theorem l_F_fr118 (n : Nat) (hn : 3000 ≤ n) (hI : Inv σ) (k105 : Int → Mm → Rr) {size : Nat} (hs1 : 1 ≤ size) (hs : size ≤ cn (σ 0 1).toNat (isF (σ 1))) (hmin : ∀ k e : Nat, k + 1 < size → ¬ rwk σ e k e) : ∀ (k h g : Nat) (M : Mm), h + k = (σ 0 1).toNat → k < g → RelC M σ → ETb (M 58) σ → (∀ e : Nat, e < h → ¬ rwk σ e (size - 1) e) → ∃ M', Fr cdC [59] M M' ∧ ((lp_F_findRing_118 n k105 g size (cn h (isF (σ 1))) M = some ((size : Int), M') ∧ rngC M' σ size) ∨ (lp_F_findRing_118 n k105 g size (cn h (isF (σ 1))) M = k105 ((size + 1 : Nat) : Int) M' ∧ ∀ e : Nat, ¬ rwk σ e (size - 1) e)) := by
  have bh := hI.1.2.1
  have h7 : (cn (σ 0 1).toNat (isF (σ 1)) : Int) ≤ 7 := by have := hI.1.2.2.2.2.2; omega
  intro k
  induction k with
  | zero =>
    intro h g M hh hg hC hE hN
    obtain ⟨g', rfl, _⟩ := f_pos hg
    have e1 : h = (σ 0 1).toNat := by omega
    subst e1
    refine ⟨M, Fr.rf, Or.inr ⟨?_, fun e q => hN e (by have := (rwk_F q).1; omega) q⟩⟩
    show f_F_findRing_118 n k105 (lp_F_findRing_118 n k105 g') _ _ M = _
    unfold f_F_findRing_118
    rw [ifp (by rw [hC.1.2.2.1, hI.1.2.2.2.2.2.1]; exact Int.le_refl _), w_succ (by omega)]
  | succ k ih =>
    intro h g M hh hg hC hE hN
    by_cases hF : isF (σ 1) h = true
    · obtain ⟨g', rfl, hg'⟩ := f_pos hg
      have hlt := cn_lt (p := isF (σ 1)) (show h < (σ 0 1).toNat by omega) hF
      have h19 := hC.1.2.2.2.2.2.2.2.1 h (by omega) hF
      have fr : Fr cdC [59] M (mset M 59 0 (h : Int)) := Fr.rf.set rfl
      obtain ⟨z, M1, k1, k2, k3, k4⟩ := e_F_closes n hn hI h size (by omega) (by omega) (size - 1) 10 1 0 h (mset M 59 0 (h : Int)) (by omega) (by omega) (Nat.le_refl 1) (hC.fr fr (by decide)) (by rw [fr.row (k := 58) (fun _ => rfl)]; exact hE) (mg_s _ _ _ _) (mg_s _ _ _ _) (by omega)
      have k1' : g_closes n 10 0 1 size (mset M 59 0 (h : Int)) = _ := k1
      have step : lp_F_findRing_118 n k105 (g' + 1) size (cn h (isF (σ 1))) M = if z = 0 then lp_F_findRing_118 n k105 g' size (cn (h + 1) (isF (σ 1))) M1 else some ((size : Int), M1) := by
        show f_F_findRing_118 n k105 (lp_F_findRing_118 n k105 g') _ _ M = _
        unfold f_F_findRing_118
        rw [ifn (by rw [hC.1.2.2.1, hI.1.2.2.2.2.2.1]; omega), ckp (by omega), Int.toNat_natCast, h19, show (0 : Int).toNat = 0 from rfl, k1', bnd_mk, w_succ (by omega), ← cn_t hF]
      rw [step]
      have f2 := fr.trans k2
      rcases k4 with ⟨z1, z2, z3⟩ | ⟨z1, z2⟩
      · rw [ifn z1]
        exact ⟨M1, f2, Or.inl ⟨rfl, Or.inr ⟨⟨hs1, hs⟩, hmin, h, by rw [k3 0 (by omega)]; exact mg_s _ _ _ _, z2, hN, z3⟩⟩⟩
      · rw [ifp z1]
        obtain ⟨M2, p1, p2⟩ := ih (h + 1) g' M1 (by omega) hg' (hC.fr f2 (by decide)) (by rw [f2.row (k := 58) (fun _ => rfl)]; exact hE) (fun e he => by
          by_cases e1 : e = h
          · rw [e1]; exact z2
          · exact hN e (by omega))
        exact ⟨M2, f2.trans p1, p2⟩
    · have e1 : cn (h + 1) (isF (σ 1)) = cn h (isF (σ 1)) := cn_f (by simpa using hF)
      have := ih (h + 1) g M (by omega) (by omega) hC hE (fun e he q => by
        by_cases e1 : e = h
        · rw [e1] at q; exact hF (rwk_F q).2
        · exact hN e (by omega) q)
      rw [e1] at this
      exact this
theorem l_F_fr105 (n : Nat) (hn : 3000 ≤ n) (hI : Inv σ) : ∀ (k size g : Nat) (M : Mm), size + k = cn (σ 0 1).toNat (isF (σ 1)) + 1 → k < g → 1 ≤ size → RelC M σ → ETb (M 58) σ → (∀ k e : Nat, k + 1 < size → ¬ rwk σ e k e) → ∃ (s : Nat) (M' : Mm), lp_F_findRing_105 n g size M = some ((s : Int), M') ∧ Fr cdC [59] M M' ∧ rngC M' σ s := by
  have h7 : (cn (σ 0 1).toNat (isF (σ 1)) : Int) ≤ 7 := by have := hI.1.2.2.2.2.2; omega
  intro k
  induction k with
  | zero =>
    intro size g M hs hg h1 hC hE hN
    obtain ⟨g', rfl, _⟩ := f_pos hg
    show ∃ s M', f_F_findRing_105 n (lp_F_findRing_105 n g') size M = _ ∧ _
    unfold f_F_findRing_105
    rw [ifp (by rw [hC.1.2.2.1, hI.1.2.2.2.2.2.1]; omega)]
    exact ⟨0, M, rfl, Fr.rf, Or.inl ⟨rfl, fun k e hk => hN k e (by omega)⟩⟩
  | succ k ih =>
    intro size g M hs hg h1 hC hE hN
    obtain ⟨g', rfl, hg'⟩ := f_pos hg
    show ∃ s M', f_F_findRing_105 n (lp_F_findRing_105 n g') size M = _ ∧ _
    have bh := hI.1.2.1
    obtain ⟨M1, p1, p2⟩ := l_F_fr118 n hn hI (lp_F_findRing_105 n g') (size := size) h1 (by omega) hN (σ 0 1).toNat 0 n M (by omega) (by omega) hC hE (fun e he => absurd he (Nat.not_lt_zero e))
    unfold f_F_findRing_105
    rw [ifn (by rw [hC.1.2.2.1, hI.1.2.2.2.2.2.1]; omega)]
    rcases p2 with ⟨q1, q2⟩ | ⟨q1, q2⟩
    · have q1' : lp_F_findRing_118 n (lp_F_findRing_105 n g') n size 0 M = _ := q1
      rw [q1']
      exact ⟨size, M1, rfl, p1, q2⟩
    · have q1' : lp_F_findRing_118 n (lp_F_findRing_105 n g') n size 0 M = _ := q1
      rw [q1']
      obtain ⟨s, M2, k1, k2, k3⟩ := ih (size + 1) g' M1 (by omega) hg' (by omega) (hC.fr p1 (by decide)) (by rw [p1.row (k := 58) (fun _ => rfl)]; exact hE) (fun k e hk => by
        by_cases e1 : k + 1 = size
        · rw [show k = size - 1 by omega]; exact q2 e
        · exact hN k e (by omega))
      exact ⟨s, M2, k1, p1.trans k2, k3⟩
/-- the class's table, on the way -/
def ETp (r : Nat → Int) (σ : Mm) (a b : Nat) : Prop := ∀ f, f < 16 → inR (r f) ∧ ∀ o, bI (r f) o = true ↔ (eR σ f o ∧ (o < a ∨ (o = a ∧ f < b)))
theorem l_F_fr27 (n : Nat) (hI : Inv σ) (k14 : Int → Mm → Rr) {a : Nat} (ha : (a : Int) < σ 0 1) (hFa : isF (σ 1) a = true) : ∀ (k b g : Nat) (M : Mm), b + k = (σ 0 1).toNat → k < g → RelC M σ → LDt M σ (σ 0 3).toNat → ETp (M 58) σ a b → ∃ M', lp_F_findRing_27 n k14 g (cn a (isF (σ 1))) (cn b (isF (σ 1))) M = k14 (cn (a + 1) (isF (σ 1))) M' ∧ Fr cdC [58] M M' ∧ ETp (M' 58) σ (a + 1) 0 := by
  have bh := hI.1.2.1
  have h7 : (cn (σ 0 1).toNat (isF (σ 1)) : Int) ≤ 7 := by have := hI.1.2.2.2.2.2; omega
  have hla := cn_lt (p := isF (σ 1)) (show a < (σ 0 1).toNat by omega) hFa
  intro k
  induction k with
  | zero =>
    intro b g M hb hg hC hL hT
    obtain ⟨g', rfl, _⟩ := f_pos hg
    have e1 : b = (σ 0 1).toNat := by omega
    subst e1
    show ∃ M', f_F_findRing_27 n k14 (lp_F_findRing_27 n k14 g') _ _ M = _ ∧ _
    unfold f_F_findRing_27
    rw [ifp (by rw [hC.1.2.2.1, hI.1.2.2.2.2.2.1]; exact Int.le_refl _), w_succ (by omega), ← cn_t hFa]
    refine ⟨M, rfl, Fr.rf, fun f hf => ⟨(hT f hf).1, fun o => ((hT f hf).2 o).trans ⟨fun q => ⟨q.1, by omega⟩, fun q => ⟨q.1, ?_⟩⟩⟩⟩
    have := q.1.1
    omega
  | succ k ih =>
    intro b g M hb hg hC hL hT
    by_cases hF : isF (σ 1) b = true
    · obtain ⟨g', rfl, hg'⟩ := f_pos hg
      show ∃ M', f_F_findRing_27 n k14 (lp_F_findRing_27 n k14 g') _ _ M = _ ∧ _
      have hlt := cn_lt (p := isF (σ 1)) (show b < (σ 0 1).toNat by omega) hF
      have h19 := hC.1.2.2.2.2.2.2.2.1 b (by omega) hF
      have h19a := hC.1.2.2.2.2.2.2.2.1 a (by omega) hFa
      have hqt := (hL a ha hFa).1 b (by omega)
      have tail : ∀ v : Int, inR v → (∀ o, bI v o = true ↔ (bI (M 58 b) o = true ∨ (o = a ∧ eR σ b a))) → ∃ M', lp_F_findRing_27 n k14 g' (cn a (isF (σ 1))) (cn (b + 1) (isF (σ 1))) (mset M 58 b v) = k14 (cn (a + 1) (isF (σ 1))) M' ∧ Fr cdC [58] M M' ∧ ETp (M' 58) σ (a + 1) 0 := fun v hv hvb => by
        have fr : Fr cdC [58] M (mset M 58 b v) := Fr.rf.set rfl
        obtain ⟨M2, k1, k2, k3⟩ := ih (b + 1) g' (mset M 58 b v) (by omega) hg' (hC.fr fr (by decide)) (fun c hc hFc => by
          have := hL c hc hFc
          refine ⟨fun i hi => ?_, ?_⟩
          · rw [mg_k _ _ _ (by omega)]; exact this.1 i hi
          · rw [mg_k _ _ _ (by decide)]; exact this.2) (fun f hf => by
          by_cases e1 : f = b
          · subst e1
            rw [mg_s]
            refine ⟨hv, fun o => (hvb o).trans ?_⟩
            rw [(hT f hf).2 o]
            constructor
            · rintro (q | q)
              · exact ⟨q.1, by omega⟩
              · rw [q.1]; exact ⟨q.2, Or.inr ⟨rfl, by omega⟩⟩
            · rintro ⟨q1, q2⟩
              by_cases e2 : o = a
              · exact Or.inr ⟨e2, by rw [← e2]; exact q1⟩
              · exact Or.inl ⟨q1, by omega⟩
          · rw [mg_j _ _ _ e1]
            refine ⟨(hT f hf).1, fun o => ((hT f hf).2 o).trans (and_congr Iff.rfl ?_)⟩
            omega)
        exact ⟨M2, k1, fr.trans k2, k3⟩
      unfold f_F_findRing_27 f_F_findRing_89
      rw [ifn (by rw [hC.1.2.2.1, hI.1.2.2.2.2.2.1]; omega)]
      simp only [ckp (show (0 : Int) ≤ (cn b (isF (σ 1)) : Int) ∧ (cn b (isF (σ 1)) : Int) < 7 by omega), ckp (show (0 : Int) ≤ (cn a (isF (σ 1)) : Int) ∧ (cn a (isF (σ 1)) : Int) < 7 by omega), Int.toNat_natCast, h19, h19a, ckp (show (0 : Int) ≤ (b : Int) ∧ (b : Int) < 16 by omega), ckp (show (0 : Int) ≤ (a : Int) ∧ (a : Int) < 16 by omega), hqt, w_succ (show cn b (isF (σ 1)) < 2000000000 by omega), ← cn_t hF]
      by_cases c : hpt σ a b (σ 0 3).toNat ≤ 0
      · rw [ifp c, ior_0 (hT b (by omega)).1]
        exact tail _ (hT b (by omega)).1 fun o => ⟨Or.inl, fun q => q.elim id fun q => by have := q.2.2.2; omega⟩
      · rw [ifn c]
        refine tail _ (ir_or _ _) fun o => ?_
        rw [bI_or, Bool.or_eq_true, bI_bit (by omega), decide_eq_true_eq]
        exact or_congr Iff.rfl ⟨fun q => ⟨q, by omega, hF, by omega⟩, fun q => q.1⟩
    · have e1 : cn (b + 1) (isF (σ 1)) = cn b (isF (σ 1)) := cn_f (by simpa using hF)
      have := ih (b + 1) g M (by omega) (by omega) hC hL (fun f hf => ⟨(hT f hf).1, fun o => ((hT f hf).2 o).trans ⟨fun q => ⟨q.1, by omega⟩, fun q => ⟨q.1, by
        have h1 := q.1.2.1
        have : f ≠ b := fun z => by rw [z] at h1; exact hF h1
        omega⟩⟩⟩)
      rw [e1] at this
      exact this
theorem l_F_fr14 (n : Nat) (hn : 3000 ≤ n) (hI : Inv σ) : ∀ (k a g : Nat) (M : Mm), a + k = (σ 0 1).toNat → k < g → RelC M σ → LDt M σ (σ 0 3).toNat → ETp (M 58) σ a 0 → ∃ M', lp_F_findRing_14 n g (cn a (isF (σ 1))) M = lp_F_findRing_105 n n 1 M' ∧ Fr cdC [58] M M' ∧ ETb (M' 58) σ := by
  have bh := hI.1.2.1
  intro k
  induction k with
  | zero =>
    intro a g M ha hg hC hL hT
    obtain ⟨g', rfl, _⟩ := f_pos hg
    have e1 : a = (σ 0 1).toNat := by omega
    subst e1
    show ∃ M', f_F_findRing_14 n (lp_F_findRing_14 n g') _ M = _ ∧ _
    unfold f_F_findRing_14
    rw [ifp (by rw [hC.1.2.2.1, hI.1.2.2.2.2.2.1]; exact Int.le_refl _)]
    exact ⟨M, rfl, Fr.rf, fun f hf => ⟨(hT f hf).1, fun o => ((hT f hf).2 o).trans ⟨fun q => q.1, fun q => ⟨q, Or.inl (by have := (eR_in hI q).1; omega)⟩⟩⟩⟩
  | succ k ih =>
    intro a g M ha hg hC hL hT
    by_cases hF : isF (σ 1) a = true
    · obtain ⟨g', rfl, hg'⟩ := f_pos hg
      show ∃ M', f_F_findRing_14 n (lp_F_findRing_14 n g') _ M = _ ∧ _
      have hlt := cn_lt (p := isF (σ 1)) (show a < (σ 0 1).toNat by omega) hF
      obtain ⟨M1, z1, z2, z3⟩ := l_F_fr27 n hI (lp_F_findRing_14 n g') (a := a) (by omega) hF (σ 0 1).toNat 0 n M (by omega) (by omega) hC hL hT
      have z1' : lp_F_findRing_27 n (lp_F_findRing_14 n g') n (cn a (isF (σ 1))) 0 M = _ := z1
      unfold f_F_findRing_14
      rw [ifn (by rw [hC.1.2.2.1, hI.1.2.2.2.2.2.1]; omega), z1']
      obtain ⟨M2, k1, k2, k3⟩ := ih (a + 1) g' M1 (by omega) hg' (hC.fr z2 (by decide)) (fun c hc hFc => by
        have := hL c hc hFc
        refine ⟨fun i hi => ?_, ?_⟩
        · have e1 : [58].elem (cdC (180 + c) i) = false := by
            have e : cdC (180 + c) i = 180 + c := by unfold cdC; rw [ifn (by omega)]
            rw [e]
            have hh : ∀ c, c < 16 → [58].elem (180 + c) = false := by decide
            exact hh c (by omega)
          rw [z2 _ _ e1]; exact this.1 i hi
        · rw [z2 57 c rfl]; exact this.2) z3
      exact ⟨M2, k1, z2.trans k2, k3⟩
    · have e1 : cn (a + 1) (isF (σ 1)) = cn a (isF (σ 1)) := cn_f (by simpa using hF)
      have := ih (a + 1) g M (by omega) (by omega) hC hL (fun f hf => ⟨(hT f hf).1, fun o => ((hT f hf).2 o).trans ⟨fun q => ⟨q.1, by omega⟩, fun q => ⟨q.1, by
        have h1 := (eR_in hI q.1).2
        have : o ≠ a := fun z => by rw [z] at h1; exact hF h1
        omega⟩⟩⟩)
      rw [e1] at this
      exact this
theorem e_F_findRing (n : Nat) (hn : 3000 ≤ n) (hI : Inv σ) (hC : RelC M σ) : ∃ (s : Nat) (M' : Mm), f_F_findRing n M = some ((s : Int), M') ∧ RelC M' σ ∧ rngC M' σ s := by
  have bh := hI.1.2.1
  have h7 : (cn (σ 0 1).toNat (isF (σ 1)) : Int) ≤ 7 := by have := hI.1.2.2.2.2.2; omega
  obtain ⟨M1, m1, m2, m3, _⟩ := e_F_load n hn hI hC
  have fr : Fr cdC [58] M1 (mfil M1 58 16 0) := Fr.rf.rowset fun _ => rfl
  have hC1 := hC.fr m2 (by decide)
  obtain ⟨M2, k1, k2, k3⟩ := l_F_fr14 n hn hI (σ 0 1).toNat 0 n (mfil M1 58 16 0) (by omega) (by omega) (hC1.fr fr (by decide)) (fun c hc hFc => by
    have := m3 c hc hFc
    refine ⟨fun i hi => ?_, ?_⟩
    · rw [mfil_k _ _ _ (by omega)]; exact this.1 i hi
    · rw [mfil_k _ _ _ (by decide)]; exact this.2) (fun f hf => by
    rw [mfil_in _ _ _ _ hf]
    exact ⟨ir_0, fun o => by rw [bI_0]; exact ⟨fun q => (by cases q), fun q => by omega⟩⟩)
  have k1' : lp_F_findRing_14 n n 0 (mfil M1 58 16 0) = _ := k1
  have hC2 := (hC1.fr fr (by decide)).fr k2 (by decide)
  obtain ⟨s, M3, p1, p2, p3⟩ := l_F_fr105 n hn hI (cn (σ 0 1).toNat (isF (σ 1))) 1 n M2 (by omega) (by omega) (Nat.le_refl 1) hC2 k3 (fun k e hk => by omega)
  have p1' : lp_F_findRing_105 n n 1 M2 = _ := p1
  refine ⟨s, M3, ?_, hC2.fr p2 (by decide), p3⟩
  unfold f_F_findRing
  rw [m1, bnd_mk, k1', p1']
end
