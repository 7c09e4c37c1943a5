/-! ring(..): the reference: who has parts of whom; the way to the end. -/
section
variable {σ : Mm} {M N : Mm}
/-- firm f has a part of firm o through one of the first k shares -/
def eRk (σ : Mm) (k f o : Nat) : Prop := isF (σ 1) f = true ∧ ∃ s, s < k ∧ σ 3 s = (o : Int) ∧ ow σ s (σ 0 0) = (f : Int) ∧ 0 < σ 5 s
theorem eRk_st {k f o : Nat} : eRk σ (k + 1) f o ↔ eRk σ k f o ∨ (isF (σ 1) f = true ∧ σ 3 k = (o : Int) ∧ ow σ k (σ 0 0) = (f : Int) ∧ 0 < σ 5 k) := by
  constructor
  · rintro ⟨h, s, s1, s2⟩
    by_cases e : s = k
    · rw [e] at s2; exact Or.inr ⟨h, s2⟩
    · exact Or.inl ⟨h, s, by omega, s2⟩
  · rintro (⟨h, s, s1, s2⟩ | q)
    · exact ⟨h, s, by omega, s2⟩
    · exact ⟨q.1, k, by omega, q.2⟩
theorem eRk_end (hI : Inv σ) {f o : Nat} : eRk σ (σ 0 3).toNat f o ↔ eR σ f o := by
  unfold eR
  rw [hpt_pos hI]
  constructor
  · rintro ⟨h, s, s1, s2⟩
    have q := ow_in hI (s := s) (by omega) (σ 0 0)
    have h2 := s2.2.1
    exact ⟨by omega, h, s, by omega, s2⟩
  · rintro ⟨h1, h2, s, s1, s2⟩
    exact ⟨h2, s, by omega, s2⟩
theorem l_m_into23 (n : Nat) (hI : Inv σ) : ∀ (k s g : Nat) (N : Mm), s + k = (σ 0 3).toNat → k < g → AgR N σ → (∀ s : Nat, (s : Int) < σ 0 3 → N 22 s = (Wh σ s (σ 0 0)).1) → (∀ f, f < 16 → inR (N 43 f) ∧ ∀ o, bI (N 43 f) o = true ↔ eRk σ s f o) → ∃ N', lp_m_findInto_23 n g s N = some (0, N') ∧ Fr cdR [43] N N' ∧ ETb (N' 43) σ := by
  have b1 := hI.2.1.1
  have bh := hI.1.2.1
  have p4 := hI.2.1.2.2.2.1
  intro k
  induction k with
  | zero =>
    intro s g N hs hg hA hW hT
    obtain ⟨g', rfl, _⟩ := f_pos hg
    have e : s = (σ 0 3).toNat := by omega
    subst e
    show ∃ N', f_m_findInto_23 n (lp_m_findInto_23 n g') _ N = _ ∧ _
    unfold f_m_findInto_23
    rw [ifp (by rw [hA 0 3 rfl]; omega)]
    exact ⟨N, rfl, Fr.rf, fun f hf => ⟨(hT f hf).1, fun o => ((hT f hf).2 o).trans (eRk_end hI)⟩⟩
  | succ k ih =>
    intro s g N hs hg hA hW hT
    obtain ⟨g', rfl, hg'⟩ := f_pos hg
    show ∃ N', f_m_findInto_23 n (lp_m_findInto_23 n g') s N = _ ∧ _
    have q := ow_in hI (s := s) (by omega) (σ 0 0)
    have p5 := p4 s (by omega)
    have a5 : N 5 = σ 5 := hA.row (k := 5) (fun _ => rfl)
    have a3 : N 3 = σ 3 := hA.row (k := 3) (fun _ => rfl)
    have aK : N 1 = σ 1 := hA.row (k := 1) (fun _ => rfl)
    have skip : ¬ (0 < σ 5 s ∧ 0 ≤ ow σ s (σ 0 0) ∧ isF (σ 1) (ow σ s (σ 0 0)).toNat = true) → ∃ N', lp_m_findInto_23 n g' ((s + 1 : Nat) : Int) N = some (0, N') ∧ Fr cdR [43] N N' ∧ ETb (N' 43) σ := fun w => ih (s + 1) g' N (by omega) hg' hA hW fun f hf => ⟨(hT f hf).1, fun o => ((hT f hf).2 o).trans ⟨fun z => eRk_st.mpr (Or.inl z), fun z => by
      rcases eRk_st.mp z with z | z
      · exact z
      · exact absurd ⟨z.2.2.2, by omega, by rw [z.2.2.1, Int.toNat_natCast]; exact z.1⟩ w⟩⟩
    unfold f_m_findInto_23 f_m_findInto_86
    simp only [ckp (show (0 : Int) ≤ (s : Int) ∧ (s : Int) < 40 by omega), Int.toNat_natCast, w_succ (show s < 2000000000 by omega), a5, a3, aK, hW s (show (s : Int) < σ 0 3 by omega)]
    rw [ifn (by rw [hA 0 3 rfl]; omega)]
    by_cases c0 : σ 5 s ≤ 0
    · rw [ifp c0]; exact skip fun z => by omega
    · rw [ifn c0]
      rcases q with q | q
      · rw [ifp (by omega)]; exact skip fun z => by omega
      · obtain ⟨y, hy⟩ := nat_of q.1
        obtain ⟨x, hx⟩ := nat_of p5.1.1
        rw [← q.2.2.1, hy, Int.toNat_natCast, ifn (by omega), ckp (by omega)]
        by_cases c : σ 1 y = 1
        · rw [ifn (fun z => z c), ckp (by omega), ckp (by omega), hx]
          have fr : Fr cdR [43] N (mset N 43 y (ior (N 43 y) (ish 1 (x : Int)))) := Fr.rf.set rfl
          obtain ⟨N2, k1, k2, k3⟩ := ih (s + 1) g' (mset N 43 y (ior (N 43 y) (ish 1 (x : Int)))) (by omega) hg' (hA.fr fr (by decide)) (fun i hi => by rw [fr 22 i rfl]; exact hW i hi) (fun f hf => by
            by_cases e : f = y
            · subst e
              rw [mg_s]
              refine ⟨ir_or _ _, fun o => ?_⟩
              rw [bI_or, Bool.or_eq_true, (hT f hf).2 o, bI_bit (by omega), decide_eq_true_eq, eRk_st]
              refine or_congr Iff.rfl ⟨fun z => ⟨isF_of c, by rw [z]; exact hx, hy, by omega⟩, fun z => ?_⟩
              have := z.2.1
              omega
            · rw [mg_j _ _ _ e]
              refine ⟨(hT f hf).1, fun o => ((hT f hf).2 o).trans ?_⟩
              rw [eRk_st]
              refine ⟨Or.inl, fun z => z.elim id fun z => ?_⟩
              have := z.2.2.1
              omega)
          exact ⟨N2, k1, fr.trans k2, k3⟩
        · rw [ifp c]; exact skip fun z => c (of_decide_eq_true (by have := z.2.2; rw [hy, Int.toNat_natCast] at this; exact this))
theorem e_m_findInto (n : Nat) (hn : 3000 ≤ n) (hI : Inv σ) (hA : AgR N σ) (hW : ∀ s : Nat, (s : Int) < σ 0 3 → N 22 s = (Wh σ s (σ 0 0)).1) : ∃ N', f_m_findInto n N = some (0, N') ∧ Fr cdR [43] N N' ∧ ETb (N' 43) σ := by
  have b1 := hI.2.1.1
  have go : ∀ (k j g : Nat) (N : Mm), j + k = 16 → k < g → (∀ o, o < j → N 43 o = 0) → ∃ N', lp_m_findInto_2 n g j N = lp_m_findInto_23 n n 0 N' ∧ Fr cdR [43] N N' ∧ ∀ o, o < 16 → N' 43 o = 0 := by
    intro k
    induction k with
    | zero =>
      intro j g N hj hg h0
      obtain ⟨g', rfl, _⟩ := f_pos hg
      show ∃ N', f_m_findInto_2 n (lp_m_findInto_2 n g') j N = _ ∧ _
      unfold f_m_findInto_2
      rw [ifp (by omega)]
      exact ⟨N, rfl, Fr.rf, fun o ho => h0 o (by omega)⟩
    | succ k ih =>
      intro j g N hj hg h0
      obtain ⟨g', rfl, hg'⟩ := f_pos hg
      show ∃ N', f_m_findInto_2 n (lp_m_findInto_2 n g') j N = _ ∧ _
      unfold f_m_findInto_2
      rw [ifn (by omega), ckp (by omega), w_succ (by omega), Int.toNat_natCast]
      have fr : Fr cdR [43] N (mset N 43 j 0) := Fr.rf.set rfl
      obtain ⟨N2, k1, k2, k3⟩ := ih (j + 1) g' (mset N 43 j 0) (by omega) hg' (fun o ho => by
        by_cases e : o = j
        · rw [e, mg_s]
        · rw [mg_j _ _ _ e]; exact h0 o (by omega))
      exact ⟨N2, k1, fr.trans k2, k3⟩
  obtain ⟨N1, g1, g2, g3⟩ := go 16 0 n N rfl (by omega) (fun o ho => absurd ho (Nat.not_lt_zero o))
  obtain ⟨N2, k1, k2, k3⟩ := l_m_into23 n hI (σ 0 3).toNat 0 n N1 (by omega) (by omega) (hA.fr g2 (by decide)) (fun s hs => by rw [g2 22 s rfl]; exact hW s hs) (fun f hf => by
    rw [g3 f hf]
    exact ⟨ir_0, fun o => by rw [bI_0]; exact ⟨fun q => (by cases q), fun ⟨_, s, s1, _⟩ => absurd s1 (Nat.not_lt_zero s)⟩⟩)
  have g1' : lp_m_findInto_2 n n 0 N = _ := g1
  have k1' : lp_m_findInto_23 n n 0 N1 = _ := k1
  refine ⟨N2, ?_, g2.trans k2, k3⟩
  unfold f_m_findInto
  rw [g1', k1']
/-- the steps to the end are told, below D -/
def dDT (N σ : Mm) (e D f : Nat) : Prop := (N 44 f = 99 ∧ ∀ k, k + 1 < D → ¬ rwk σ e k f) ∨ ∃ k : Nat, N 44 f = ((k + 1 : Nat) : Int) ∧ k + 1 < D ∧ rwk σ e k f ∧ ∀ r, r < k → ¬ rwk σ e r f
theorem dDT_eq {e D f d : Nat} (h : dDT N σ e D f) (hD : d + 1 < D) (h8 : D ≤ 8) : N 44 f = ((d + 1 : Nat) : Int) ↔ rwk σ e d f ∧ ∀ r, r < d → ¬ rwk σ e r f := by
  rcases h with ⟨h1, h2⟩ | ⟨k, h1, h2, h3, h4⟩
  · constructor
    · intro q; omega
    · intro q; exact absurd q.1 (h2 d hD)
  · constructor
    · intro q
      have : k = d := by omega
      subst this
      exact ⟨h3, h4⟩
    · rintro ⟨q1, q2⟩
      have : k = d := by
        rcases Nat.lt_trichotomy k d with w | w | w
        · exact absurd h3 (q2 k w)
        · exact w
        · exact absurd q1 (h4 d w)
      rw [this] at h1
      exact h1
/-- o tells that f is d steps away -/
def dQ (N0 σ : Mm) (e d f o : Nat) : Prop := eR σ f o ∧ ((d = 1 ∧ o = e) ∨ (d ≠ 1 ∧ e < o ∧ N0 44 o = (d : Int) - 1))
theorem l_m_ar83 (n : Nat) (hI : Inv σ) (k45 : Int → Int → Int → Mm → Rr) (k56 : Int → Int → Int → Int → Mm → Rr) {e d f : Nat} (x2 : Int) (hd : 1 ≤ d ∧ d < 8) (hf : f < 16) {N0 : Mm} (h99 : N0 44 f = 99) (hA : AgR N0 σ) (hE : ETb (N0 43) σ) : ∀ (k o g : Nat) (N : Mm), o + k = (σ 0 1).toNat → k < g → e ≤ o → (∀ k j, ¬ (k = 44 ∧ j = f) → N k j = N0 k j) → ((N 44 f = 99 ∧ ∀ o', o' < o → e ≤ o' → ¬ dQ N0 σ e d f o') ∨ (N 44 f = (d : Int) ∧ ∃ o', e ≤ o' ∧ dQ N0 σ e d f o')) → ∃ N', lp_m_around_83 n k45 k56 g e x2 d f o N = k56 e x2 d ((f + 1 : Nat) : Int) N' ∧ (∀ k j, ¬ (k = 44 ∧ j = f) → N' k j = N0 k j) ∧ ((N' 44 f = 99 ∧ ∀ o', e ≤ o' → ¬ dQ N0 σ e d f o') ∨ (N' 44 f = (d : Int) ∧ ∃ o', e ≤ o' ∧ dQ N0 σ e d f o')) := by
  have bh := hI.1.2.1
  intro k
  induction k with
  | zero =>
    intro o g N ho hg heo hN hQ
    obtain ⟨g', rfl, _⟩ := f_pos hg
    show ∃ N', f_m_around_83 n k45 k56 (lp_m_around_83 n k45 k56 g') _ _ _ _ _ N = _ ∧ _
    unfold f_m_around_83 f_m_around_155
    rw [ifp (by rw [hN 0 1 (by omega), hA 0 1 rfl]; omega), w_succ (by omega)]
    refine ⟨N, rfl, hN, ?_⟩
    rcases hQ with q | q
    · exact Or.inl ⟨q.1, fun o' h1 h2 => q.2 o' (by have := (eR_in hI h2.1).1; omega) h1 h2⟩
    · exact Or.inr q
  | succ k ih =>
    intro o g N ho hg heo hN hQ
    obtain ⟨g', rfl, hg'⟩ := f_pos hg
    show ∃ N', f_m_around_83 n k45 k56 (lp_m_around_83 n k45 k56 g') _ _ _ _ _ N = _ ∧ _
    have hb := (hE f hf).2 o
    have e43 : N 43 f = N0 43 f := hN 43 f (by omega)
    have skip : ¬ dQ N0 σ e d f o → ∃ N', lp_m_around_83 n k45 k56 g' e x2 d f ((o + 1 : Nat) : Int) N = k56 e x2 d ((f + 1 : Nat) : Int) N' ∧ (∀ k j, ¬ (k = 44 ∧ j = f) → N' k j = N0 k j) ∧ ((N' 44 f = 99 ∧ ∀ o', e ≤ o' → ¬ dQ N0 σ e d f o') ∨ (N' 44 f = (d : Int) ∧ ∃ o', e ≤ o' ∧ dQ N0 σ e d f o')) := fun w => ih (o + 1) g' N (by omega) hg' (by omega) hN (by
      rcases hQ with q | q
      · refine Or.inl ⟨q.1, fun o' h1 h2 => ?_⟩
        by_cases z : o' = o
        · rw [z]; exact w
        · exact q.2 o' (by omega) h2
      · exact Or.inr q)
    have take : dQ N0 σ e d f o → ∃ N', lp_m_around_83 n k45 k56 g' e x2 d f ((o + 1 : Nat) : Int) (mset N 44 f (d : Int)) = k56 e x2 d ((f + 1 : Nat) : Int) N' ∧ (∀ k j, ¬ (k = 44 ∧ j = f) → N' k j = N0 k j) ∧ ((N' 44 f = 99 ∧ ∀ o', e ≤ o' → ¬ dQ N0 σ e d f o') ∨ (N' 44 f = (d : Int) ∧ ∃ o', e ≤ o' ∧ dQ N0 σ e d f o')) := fun w => ih (o + 1) g' (mset N 44 f (d : Int)) (by omega) hg' (by omega) (fun k j hkj => by
      rw [mg]
      by_cases z : k = 44
      · rw [ifp z, ifn (fun y => hkj ⟨z, y⟩)]; rw [← z]; exact hN k j hkj
      · rw [ifn z]; exact hN k j hkj) (Or.inr ⟨mg_s _ _ _ _, o, heo, w⟩)
    unfold f_m_around_83 f_m_around_149 f_m_around_141 f_m_around_149
    simp only [ckp (show (0 : Int) ≤ (f : Int) ∧ (f : Int) < 16 by omega), ckp (show (0 : Int) ≤ (o : Int) ∧ (o : Int) < 16 by omega), Int.toNat_natCast, w_succ (show o < 2000000000 by omega), e43, bit_I (show o < 32 by omega)]
    rw [ifn (by rw [hN 0 1 (by omega), hA 0 1 rfl]; omega)]
    by_cases c : bI (N0 43 f) o = true
    · have hfo := hb.mp c
      rw [ifp c, ifn (show ¬ (1 : Int) ≠ 1 by decide)]
      by_cases c1 : d = 1
      · rw [ifn (show ¬ (d : Int) ≠ 1 by omega)]
        by_cases c2 : o = e
        · rw [ifn (show ¬ (o : Int) ≠ (e : Int) by omega)]
          exact take ⟨hfo, Or.inl ⟨c1, c2⟩⟩
        · rw [ifp (show (o : Int) ≠ (e : Int) by omega)]
          exact skip fun w => w.2.elim (fun w => c2 w.2) fun w => w.1 c1
      · rw [ifp (show (d : Int) ≠ 1 by omega)]
        by_cases c2 : e < o
        · have e44 : (N 44 o = (d : Int) - 1) ↔ (N0 44 o = (d : Int) - 1) := by
            by_cases z : o = f
            · subst z
              rw [h99]
              rcases hQ with q | q
              · rw [q.1]
              · rw [q.1]; omega
            · rw [hN 44 o (by omega)]
          rw [ifn (show ¬ (o : Int) ≤ (e : Int) by omega), w32_s (x := (d : Int) - 1) (by omega) (by omega)]
          by_cases c3 : N 44 o = (d : Int) - 1
          · rw [ifn (fun z => z c3)]
            exact take ⟨hfo, Or.inr ⟨c1, c2, e44.mp c3⟩⟩
          · rw [ifp c3]
            exact skip fun w => w.2.elim (fun w => c1 w.1) fun w => c3 (e44.mpr w.2.2)
        · rw [ifp (show (o : Int) ≤ (e : Int) by omega)]
          exact skip fun w => w.2.elim (fun w => c1 w.1) fun w => c2 w.2.1
    · rw [ifn c, ifp (show (0 : Int) ≠ 1 by decide)]
      exact skip fun w => c (hb.mpr w.1)
theorem l_m_ar56 (n : Nat) (hn : 3000 ≤ n) (hI : Inv σ) (k45 : Int → Int → Int → Mm → Rr) {e d : Nat} (x2 : Int) (hd : 1 ≤ d ∧ d < 8) : ∀ (k f g : Nat) (N : Mm), f + k = (σ 0 1).toNat → k < g → e < f → AgR N σ → ETb (N 43) σ → (∀ f' : Nat, e < f' → (f' : Int) < σ 0 1 → (f' < f → dDT N σ e (d + 1) f') ∧ (f ≤ f' → dDT N σ e d f')) → ∃ N', lp_m_around_56 n k45 g e x2 d f N = k45 e x2 ((d + 1 : Nat) : Int) N' ∧ Fr cdR [44] N N' ∧ ∀ f' : Nat, e < f' → (f' : Int) < σ 0 1 → dDT N' σ e (d + 1) f' := by
  have bh := hI.1.2.1
  intro k
  induction k with
  | zero =>
    intro f g N hf hg hef hA hE hD
    obtain ⟨g', rfl, _⟩ := f_pos hg
    show ∃ N', f_m_around_56 n k45 (lp_m_around_56 n k45 g') _ _ _ _ N = _ ∧ _
    unfold f_m_around_56
    rw [ifp (by rw [hA 0 1 rfl]; omega), w_succ (by omega)]
    exact ⟨N, rfl, Fr.rf, fun f' h1 h2 => (hD f' h1 h2).1 (by omega)⟩
  | succ k ih =>
    intro f g N hf hg hef hA hE hD
    obtain ⟨g', rfl, hg'⟩ := f_pos hg
    show ∃ N', f_m_around_56 n k45 (lp_m_around_56 n k45 g') _ _ _ _ N = _ ∧ _
    have hDf := (hD f hef (by omega)).2 (Nat.le_refl f)
    unfold f_m_around_56 f_m_around_155
    rw [ifn (by rw [hA 0 1 rfl]; omega), ckp (by omega), Int.toNat_natCast, w_succ (show f < 2000000000 by omega)]
    by_cases c : N 44 f = 99
    · rw [ifp c]
      obtain ⟨N1, z1, z2, z3⟩ := l_m_ar83 n hI k45 (lp_m_around_56 n k45 g') (e := e) (d := d) (f := f) x2 hd (by omega) c hA hE ((σ 0 1).toNat - e) e n N (by omega) (by omega) (Nat.le_refl e) (fun _ _ _ => rfl) (Or.inl ⟨c, fun o' h1 h2 => by omega⟩)
      rw [z1]
      have fr : Fr cdR [44] N N1 := fun k j hk => z2 k j fun q => by rw [q.1] at hk; cases hk
      have hnot : ∀ r, r + 1 < d → ¬ rwk σ e r f := by
        rcases hDf with q | q
        · exact q.2
        · obtain ⟨r, r1, r2, r3, r4⟩ := q
          omega
      have hiff : (∃ o', e ≤ o' ∧ dQ N σ e d f o') ↔ rwk σ e (d - 1) f := by
        by_cases c1 : d = 1
        · subst c1
          constructor
          · rintro ⟨o, o1, o2, o3⟩
            rcases o3 with w | w
            · rw [w.2] at o2; exact o2
            · exact absurd rfl w.1
          · intro q
            exact ⟨e, Nat.le_refl e, q, Or.inl ⟨rfl, rfl⟩⟩
        · obtain ⟨d', rfl⟩ : ∃ d', d = d' + 2 := ⟨d - 2, by omega⟩
          have key : ∀ o : Nat, e < o → (o : Int) < σ 0 1 → (N 44 o = ((d' + 2 : Nat) : Int) - 1 ↔ rwk σ e d' o ∧ ∀ r, r < d' → ¬ rwk σ e r o) := fun o h1 h2 => by
            rw [show ((d' + 2 : Nat) : Int) - 1 = ((d' + 1 : Nat) : Int) by omega]
            by_cases z : o < f
            · exact dDT_eq ((hD o h1 h2).1 z) (by omega) (by omega)
            · exact dDT_eq ((hD o h1 h2).2 (by omega)) (by omega) (by omega)
          constructor
          · rintro ⟨o, o1, o2, o3⟩
            rcases o3 with w | w
            · omega
            · exact ⟨o, w.2.1, o2, ((key o w.2.1 (eR_in hI o2).1).mp w.2.2).1⟩
          · rintro ⟨o, o1, o2, o3⟩
            refine ⟨o, by omega, o2, Or.inr ⟨c1, o1, (key o o1 (eR_in hI o2).1).mpr ⟨o3, fun r hr q => ?_⟩⟩⟩
            exact hnot (r + 1) (by omega) ⟨o, o1, o2, q⟩
      obtain ⟨N2, k1, k2, k3⟩ := ih (f + 1) g' N1 (by omega) hg' (by omega) (hA.fr fr (by decide)) (by rw [fr.row (k := 43) (fun _ => rfl)]; exact hE) (fun f' h1 h2 => by
        by_cases z : f' = f
        · subst z
          refine ⟨fun _ => ?_, fun w => by omega⟩
          rcases z3 with q | q
          · refine Or.inl ⟨q.1, fun r hr w => ?_⟩
            by_cases y : r + 1 < d
            · exact hnot r y w
            · have : r = d - 1 := by omega
              subst this
              obtain ⟨o', o1, o2⟩ := hiff.mpr w
              exact q.2 o' o1 o2
          · refine Or.inr ⟨d - 1, by rw [q.1]; omega, by omega, hiff.mp q.2, fun r hr => hnot r (by omega)⟩
        · have e44 : N1 44 f' = N 44 f' := z2 44 f' fun q => z q.2
          refine ⟨fun w => ?_, fun w => ?_⟩
          · have := (hD f' h1 h2).1 (by omega)
            unfold dDT at this ⊢
            rw [e44]; exact this
          · have := (hD f' h1 h2).2 (by omega)
            unfold dDT at this ⊢
            rw [e44]; exact this)
      exact ⟨N2, k1, fr.trans k2, k3⟩
    · rw [ifn c]
      refine ih (f + 1) g' N (by omega) hg' (by omega) hA hE fun f' h1 h2 => ⟨fun w => ?_, fun w => (hD f' h1 h2).2 (by omega)⟩
      by_cases z : f' = f
      · subst z
        rcases hDf with q | q
        · exact absurd q.1 c
        · obtain ⟨r, r1, r2, r3⟩ := q
          exact Or.inr ⟨r, r1, by omega, r3⟩
      · exact (hD f' h1 h2).1 (by omega)
theorem l_m_ar45 (n : Nat) (hn : 3000 ≤ n) (hI : Inv σ) {e : Nat} (he : (e : Int) < σ 0 1) (x2 : Int) : ∀ (k d g : Nat) (N : Mm), d + k = 8 → k < g → 1 ≤ d → AgR N σ → ETb (N 43) σ → (∀ f' : Nat, e < f' → (f' : Int) < σ 0 1 → dDT N σ e d f') → ∃ N', lp_m_around_45 n g e x2 d N = lp_m_around_171 n n e x2 ((e + 1 : Nat) : Int) N' ∧ Fr cdR [44] N N' ∧ ∀ f' : Nat, e < f' → (f' : Int) < σ 0 1 → dDT N' σ e 8 f' := by
  have bh := hI.1.2.1
  intro k
  induction k with
  | zero =>
    intro d g N hd hg h1 hA hE hD
    obtain ⟨g', rfl, _⟩ := f_pos hg
    have e1 : d = 8 := by omega
    subst e1
    show ∃ N', f_m_around_45 n (lp_m_around_45 n g') _ _ _ N = _ ∧ _
    unfold f_m_around_45
    rw [ifp (by omega), w_succ (by omega)]
    exact ⟨N, rfl, Fr.rf, hD⟩
  | succ k ih =>
    intro d g N hd hg h1 hA hE hD
    obtain ⟨g', rfl, hg'⟩ := f_pos hg
    show ∃ N', f_m_around_45 n (lp_m_around_45 n g') _ _ _ N = _ ∧ _
    obtain ⟨N1, z1, z2, z3⟩ := l_m_ar56 n hn hI (lp_m_around_45 n g') (e := e) (d := d) x2 (by omega) ((σ 0 1).toNat - (e + 1)) (e + 1) n N (by omega) (by omega) (by omega) hA hE (fun f' h1 h2 => ⟨fun w => by omega, fun _ => hD f' h1 h2⟩)
    unfold f_m_around_45
    rw [ifn (by omega), w_succ (by omega), z1]
    obtain ⟨N2, k1, k2, k3⟩ := ih (d + 1) g' N1 (by omega) hg' (by omega) (hA.fr z2 (by decide)) (by rw [z2.row (k := 43) (fun _ => rfl)]; exact hE) z3
    exact ⟨N2, k1, z2.trans k2, k3⟩
/-- the fewest steps from e to e, so far -/
def rBst (N σ : Mm) (e : Nat) (b : Int) (o : Nat) : Prop := (b = 99 ∨ ∃ k : Nat, k < 8 ∧ b = ((k + 1 : Nat) : Int) ∧ rwk σ e k e) ∧ (rwk σ e 0 e → b ≤ 1) ∧ ∀ o' : Nat, e < o' → o' < o → eR σ e o' → b ≤ N 44 o' + 1
theorem l_m_ar171 (n : Nat) (hI : Inv σ) {e : Nat} (he : (e : Int) < σ 0 1) (hA : AgR N σ) (hE : ETb (N 43) σ) (hD : ∀ f' : Nat, e < f' → (f' : Int) < σ 0 1 → dDT N σ e 8 f') : ∀ (k o g : Nat) (b : Int), o + k = (σ 0 1).toNat → k < g → e < o → rBst N σ e b o → ∃ b', lp_m_around_171 n g e b o N = some (b', N) ∧ rBst N σ e b' (σ 0 1).toNat := by
  have bh := hI.1.2.1
  intro k
  induction k with
  | zero =>
    intro o g b ho hg heo hb
    obtain ⟨g', rfl, _⟩ := f_pos hg
    have e1 : o = (σ 0 1).toNat := by omega
    subst e1
    show ∃ b', f_m_around_171 n (lp_m_around_171 n g') _ _ _ N = _ ∧ _
    unfold f_m_around_171
    rw [ifp (by rw [hA 0 1 rfl]; omega)]
    exact ⟨b, rfl, hb⟩
  | succ k ih =>
    intro o g b ho hg heo hb
    obtain ⟨g', rfl, hg'⟩ := f_pos hg
    show ∃ b', f_m_around_171 n (lp_m_around_171 n g') _ _ _ N = _ ∧ _
    have hbit := (hE e (by omega)).2 o
    have hDo := hD o heo (by omega)
    have b44 : 1 ≤ N 44 o ∧ N 44 o ≤ 99 := by
      rcases hDo with q | ⟨r, r1, r2, _⟩
      · omega
      · omega
    unfold f_m_around_171 f_m_around_214
    simp only [ckp (show (0 : Int) ≤ (e : Int) ∧ (e : Int) < 16 by omega), ckp (show (0 : Int) ≤ (o : Int) ∧ (o : Int) < 16 by omega), Int.toNat_natCast, bit_I (show o < 32 by omega), w_succ (show o < 2000000000 by omega), w32_s (show -2147483648 ≤ N 44 o + 1 by omega) (show N 44 o + 1 ≤ 2147483647 by omega)]
    rw [ifn (by rw [hA 0 1 rfl]; omega)]
    by_cases c : bI (N 43 e) o = true
    · have heo2 := hbit.mp c
      rw [ifp c, ifn (show ¬ (1 : Int) ≠ 1 by decide)]
      by_cases c2 : b ≤ N 44 o + 1
      · rw [ifp c2]
        refine ih (o + 1) g' b (by omega) hg' (by omega) ⟨hb.1, hb.2.1, fun o' h1 h2 h3 => ?_⟩
        by_cases z : o' = o
        · rw [z]; exact c2
        · exact hb.2.2 o' h1 (by omega) h3
      · rw [ifn c2]
        refine ih (o + 1) g' (N 44 o + 1) (by omega) hg' (by omega) ⟨?_, fun q => ?_, fun o' h1 h2 h3 => ?_⟩
        · rcases hDo with q | ⟨r, r1, r2, r3, r4⟩
          · exfalso
            rcases hb.1 with w | ⟨w, w0, w1, _⟩ <;> omega
          · exact Or.inr ⟨r + 1, by omega, by rw [r1]; omega, o, heo, heo2, r3⟩
        · have := hb.2.1 q
          omega
        · by_cases z : o' = o
          · rw [z]; exact Int.le_refl _
          · have := hb.2.2 o' h1 (by omega) h3
            omega
    · rw [ifn c, ifp (show (0 : Int) ≠ 1 by decide)]
      refine ih (o + 1) g' b (by omega) hg' (by omega) ⟨hb.1, hb.2.1, fun o' h1 h2 h3 => ?_⟩
      by_cases z : o' = o
      · rw [z] at h3; exact absurd (hbit.mpr h3) c
      · exact hb.2.2 o' h1 (by omega) h3
theorem e_m_around (n : Nat) (hn : 3000 ≤ n) (hI : Inv σ) (hA : AgR N σ) (hE : ETb (N 43) σ) {e : Nat} (he : (e : Int) < σ 0 1) : ∃ b N', f_m_around n e N = some (b, N') ∧ Fr cdR [44] N N' ∧ (∀ f' : Nat, e < f' → (f' : Int) < σ 0 1 → dDT N' σ e 8 f') ∧ ((7 < b ∧ ∀ k, k < 7 → ¬ rwk σ e k e) ∨ ∃ k : Nat, k < 7 ∧ b = ((k + 1 : Nat) : Int) ∧ rwk σ e k e ∧ ∀ r, r < k → ¬ rwk σ e r e) := by
  have bh := hI.1.2.1
  have go : ∀ (k j g : Nat) (N : Mm), j + k = 16 → k < g → (∀ o, o < j → N 44 o = 99) → ∃ N', lp_m_around_2 n g e j N = (if ian (isr (N' 43 e) e) 1 ≠ 1 then f_m_around_42 n e 99 N' else f_m_around_42 n e 1 N') ∧ Fr cdR [44] N N' ∧ ∀ o, o < 16 → N' 44 o = 99 := by
    intro k
    induction k with
    | zero =>
      intro j g N hj hg h0
      obtain ⟨g', rfl, _⟩ := f_pos hg
      show ∃ N', f_m_around_2 n (lp_m_around_2 n g') e j N = _ ∧ _
      unfold f_m_around_2
      rw [ifp (show (16 : Int) ≤ (j : Int) by omega), ckp (by omega), Int.toNat_natCast]
      exact ⟨N, rfl, Fr.rf, fun o ho => h0 o (by omega)⟩
    | succ k ih =>
      intro j g N hj hg h0
      obtain ⟨g', rfl, hg'⟩ := f_pos hg
      show ∃ N', f_m_around_2 n (lp_m_around_2 n g') e j N = _ ∧ _
      unfold f_m_around_2
      rw [ifn (show ¬ (16 : Int) ≤ (j : Int) by omega), ckp (by omega), w_succ (by omega), Int.toNat_natCast]
      have fr : Fr cdR [44] N (mset N 44 j 99) := Fr.rf.set rfl
      obtain ⟨N2, k1, k2, k3⟩ := ih (j + 1) g' (mset N 44 j 99) (by omega) hg' (fun o ho => by
        by_cases z : o = j
        · rw [z, mg_s]
        · rw [mg_j _ _ _ z]; exact h0 o (by omega))
      exact ⟨N2, k1, fr.trans k2, k3⟩
  obtain ⟨N1, g1, g2, g3⟩ := go 16 0 n N rfl (by omega) (fun o ho => absurd ho (Nat.not_lt_zero o))
  have g1' : lp_m_around_2 n n e 0 N = _ := g1
  have hA1 := hA.fr g2 (by decide)
  have hE1 : ETb (N1 43) σ := by rw [g2.row (k := 43) (fun _ => rfl)]; exact hE
  have fin : ∀ s0 : Int, ((s0 = 99 ∧ ¬ rwk σ e 0 e) ∨ (s0 = 1 ∧ rwk σ e 0 e)) → ∃ b N', f_m_around_42 n e s0 N1 = some (b, N') ∧ Fr cdR [44] N N' ∧ (∀ f' : Nat, e < f' → (f' : Int) < σ 0 1 → dDT N' σ e 8 f') ∧ ((7 < b ∧ ∀ k, k < 7 → ¬ rwk σ e k e) ∨ ∃ k : Nat, k < 7 ∧ b = ((k + 1 : Nat) : Int) ∧ rwk σ e k e ∧ ∀ r, r < k → ¬ rwk σ e r e) := by
    intro s0 hs0
    obtain ⟨N2, k1, k2, k3⟩ := l_m_ar45 n hn hI he s0 7 1 n N1 rfl (by omega) (Nat.le_refl 1) hA1 hE1 (fun f' h1 h2 => Or.inl ⟨g3 f' (by omega), fun k hk => by omega⟩)
    have k1' : lp_m_around_45 n n e s0 1 N1 = _ := k1
    obtain ⟨b, l1, l2, l3, l4⟩ := l_m_ar171 n hI he (hA1.fr k2 (by decide)) (by rw [k2.row (k := 43) (fun _ => rfl)]; exact hE1) k3 ((σ 0 1).toNat - (e + 1)) (e + 1) n s0 (by omega) (by omega) (by omega) ⟨by
      rcases hs0 with q | q
      · exact Or.inl q.1
      · exact Or.inr ⟨0, by decide, q.1, q.2⟩, fun w => by
      rcases hs0 with q | q
      · exact absurd w q.2
      · omega, fun o' h1 h2 => by omega⟩
    refine ⟨b, N2, ?_, g2.trans k2, k3, ?_⟩
    · unfold f_m_around_42
      rw [k1', l1]
    · have least : ∀ k, k < 7 → rwk σ e k e → b ≤ (k : Int) + 1 := by
        intro k hk hr
        cases k with
        | zero => have := l3 hr; omega
        | succ k =>
          obtain ⟨o, o1, o2, o3⟩ := hr
          have h4 := l4 o o1 (by have := (eR_in hI o2).1; omega) o2
          rcases k3 o o1 (eR_in hI o2).1 with q | ⟨r, r1, r2, r3, r4⟩
          · exact absurd o3 (q.2 k (by omega))
          · have : r ≤ k := Classical.byContradiction fun z => r4 k (by omega) o3
            omega
      rcases l2 with q | ⟨k, q0, q1, q2⟩
      · exact Or.inl ⟨by omega, fun k hk hr => by have := least k hk hr; omega⟩
      · by_cases z : k < 7
        · exact Or.inr ⟨k, z, q1, q2, fun r hr w => by have := least r (by omega) w; omega⟩
        · exact Or.inl ⟨by omega, fun r hr w => by have := least r hr w; omega⟩
  unfold f_m_around
  rw [g1', bit_I (by omega)]
  have hb := (hE1 e (by omega)).2 e
  by_cases c : bI (N1 43 e) e = true
  · rw [ifp c, ifn (show ¬ (1 : Int) ≠ 1 by decide)]
    exact fin 1 (Or.inr ⟨rfl, hb.mp c⟩)
  · rw [ifn c, ifp (show (0 : Int) ≠ 1 by decide)]
    exact fin 99 (Or.inl ⟨rfl, fun q => c (hb.mpr q)⟩)
end
