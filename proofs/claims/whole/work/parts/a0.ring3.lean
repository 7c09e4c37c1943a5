/-! ring(..): the reference's ring; the call. -/
section
variable {σ : Mm} {M N : Mm}
theorem l_m_fr73 (n : Nat) (hI : Inv σ) (k7 : Int → Mm → Rr) (k62 : Int → Int → Int → Int → Mm → Rr) {e b f j r o1 : Nat} (hE : ETb (N 43) σ) (hf : f < 16) (hj : j < 7) (hb : b = j + r + 1) (hb7 : b ≤ 7) (h1 : eR σ f o1) (h2 : N 44 o1 = ((r + 1 : Nat) : Int)) (h16 : o1 < 16) : ∀ (c o g : Nat), o + c = o1 → c < g → e < o → (∀ o', e < o' → o' < o → eR σ f o' → N 44 o' ≠ ((r + 1 : Nat) : Int)) → ∃ o2 : Nat, lp_m_findRing_73 n k7 k62 g e b f j o N = k62 e b o2 ((j + 1 : Nat) : Int) (mset N 45 j (o2 : Int)) ∧ e < o2 ∧ eR σ f o2 ∧ N 44 o2 = ((r + 1 : Nat) : Int) ∧ ∀ o', e < o' → o' < o2 → eR σ f o' → N 44 o' ≠ ((r + 1 : Nat) : Int) := by
  intro c
  induction c with
  | zero =>
    intro o g ho hg heo hN
    obtain ⟨g', rfl, _⟩ := f_pos hg
    have e1 : o = o1 := by omega
    subst e1
    refine ⟨o, ?_, heo, h1, h2, hN⟩
    show f_m_findRing_73 n k7 k62 (lp_m_findRing_73 n k7 k62 g') _ _ _ _ _ N = _
    have hbit := ((hE f hf).2 o).mpr h1
    unfold f_m_findRing_73
    rw [ckp (by omega), Int.toNat_natCast, bit_I (by omega), ifp hbit, ifn (show ¬ (1 : Int) = 0 by decide), ckp (by omega), Int.toNat_natCast, h2, w32_s (x := (b : Int) - (j : Int)) (by omega) (by omega), ifp (by omega), ckp (by omega), w_succ (by omega), Int.toNat_natCast]
  | succ c ih =>
    intro o g ho hg heo hN
    obtain ⟨g', rfl, hg'⟩ := f_pos hg
    show ∃ o2 : Nat, f_m_findRing_73 n k7 k62 (lp_m_findRing_73 n k7 k62 g') _ _ _ _ _ N = _ ∧ _
    have hbit := (hE f hf).2 o
    have skip : (eR σ f o → N 44 o ≠ ((r + 1 : Nat) : Int)) → ∃ o2 : Nat, lp_m_findRing_73 n k7 k62 g' e b f j ((o + 1 : Nat) : Int) N = k62 e b o2 ((j + 1 : Nat) : Int) (mset N 45 j (o2 : Int)) ∧ e < o2 ∧ eR σ f o2 ∧ N 44 o2 = ((r + 1 : Nat) : Int) ∧ ∀ o', e < o' → o' < o2 → eR σ f o' → N 44 o' ≠ ((r + 1 : Nat) : Int) := fun w => ih (o + 1) g' (by omega) hg' (by omega) fun o' q1 q2 q3 => by
      by_cases z : o' = o
      · rw [z] at q3 ⊢; exact w q3
      · exact hN o' q1 (by omega) q3
    unfold f_m_findRing_73 f_m_findRing_101
    rw [ckp (by omega), Int.toNat_natCast, bit_I (by omega), w_succ (show o < 2000000000 by omega)]
    by_cases c1 : bI (N 43 f) o = true
    · rw [ifp c1, ifn (show ¬ (1 : Int) = 0 by decide), ckp (by omega), Int.toNat_natCast, w32_s (x := (b : Int) - (j : Int)) (by omega) (by omega)]
      by_cases c2 : N 44 o = (b : Int) - (j : Int)
      · rw [ifp c2, ckp (by omega), w_succ (by omega), Int.toNat_natCast]
        exact ⟨o, rfl, heo, hbit.mp c1, by rw [c2]; omega, hN⟩
      · rw [ifn c2]
        exact skip fun _ z => c2 (by rw [z]; omega)
    · rw [ifn c1, ifp rfl]
      exact skip fun z => absurd (hbit.mpr z) c1
theorem l_m_fr62 (n : Nat) (hn : 3000 ≤ n) (hI : Inv σ) (k7 : Int → Mm → Rr) {e b : Nat} (he : (e : Int) < σ 0 1) (hb : 1 ≤ b ∧ b ≤ 7) : ∀ (r j g f : Nat) (N : Mm), j + r = b → r < g → 1 ≤ j → AgR N σ → ETb (N 43) σ → (∀ f' : Nat, e < f' → (f' : Int) < σ 0 1 → dDT N σ e 8 f') → N 45 (j - 1) = (f : Int) → (f : Int) < σ 0 1 → rwk σ e r f → (∀ r', r' < r → ¬ rwk σ e r' f) → ∃ N', lp_m_findRing_62 n k7 g e b f j N = k7 ((e + 1 : Nat) : Int) N' ∧ Fr cdR [45] N N' ∧ (∀ i, i < j → N' 45 i = N 45 i) ∧ pthC (N' 45) σ e b j := by
  have bh := hI.1.2.1
  intro r
  induction r with
  | zero =>
    intro j g f N hj hg h1 hA hE hD h45 hf hw hm
    obtain ⟨g', rfl, _⟩ := f_pos hg
    show ∃ N', f_m_findRing_62 n k7 (lp_m_findRing_62 n k7 g') _ _ _ _ N = _ ∧ _
    unfold f_m_findRing_62 f_m_findRing_125
    rw [ifp (by omega), w_succ (by omega)]
    exact ⟨N, rfl, Fr.rf, fun _ _ => rfl, fun k q1 q2 => by omega⟩
  | succ r ih =>
    intro j g f N hj hg h1 hA hE hD h45 hf hw hm
    obtain ⟨g', rfl, hg'⟩ := f_pos hg
    show ∃ N', f_m_findRing_62 n k7 (lp_m_findRing_62 n k7 g') _ _ _ _ N = _ ∧ _
    have key : ∀ o : Nat, e < o → eR σ f o → (N 44 o = ((r + 1 : Nat) : Int) ↔ rwk σ e r o) := fun o q1 q2 => by
      rw [dDT_eq (hD o q1 (eR_in hI q2).1) (d := r) (by omega) (by omega)]
      exact ⟨fun z => z.1, fun z => ⟨z, fun r' hr w => hm (r' + 1) (by omega) ⟨o, q1, q2, w⟩⟩⟩
    obtain ⟨o1, p1, p2, p3⟩ := hw
    have ho1 := (eR_in hI p2).1
    obtain ⟨o, z1, z2, z3, z4, z5⟩ := l_m_fr73 n hI k7 (lp_m_findRing_62 n k7 g') (e := e) (b := b) (f := f) (j := j) (r := r) (o1 := o1) hE (by omega) (by omega) (by omega) hb.2 p2 ((key o1 p1 p2).mpr p3) (by omega) (o1 - (e + 1)) (e + 1) n (by omega) (by omega) (by omega) (fun o' q1 q2 => by omega)
    have ho := (eR_in hI z3).1
    have hro := (key o z2 z3).mp z4
    unfold f_m_findRing_62
    rw [ifn (by omega), w_succ (by omega), z1]
    have fr : Fr cdR [45] N (mset N 45 j (o : Int)) := Fr.rf.set rfl
    obtain ⟨N2, k1, k2, k3, k4⟩ := ih (j + 1) g' o (mset N 45 j (o : Int)) (by omega) hg' (by omega) (hA.fr fr (by decide)) (by rw [fr.row (k := 43) (fun _ => rfl)]; exact hE) (fun f' q1 q2 => by
      have := hD f' q1 q2
      unfold dDT at this ⊢
      rw [fr 44 f' rfl]; exact this) (mg_s _ _ _ _) ho hro (fun r' hr w => hm (r' + 1) (by omega) ⟨o, z2, z3, w⟩)
    refine ⟨N2, k1, fr.trans k2, fun i hi => by rw [k3 i (by omega), mg_j _ _ _ (by omega)], fun k q1 q2 => ?_⟩
    by_cases z : k = j
    · subst z
      refine ⟨f, o, by rw [k3 _ (by omega), mg_j _ _ _ (by omega)]; exact h45, by rw [k3 _ (by omega)]; exact mg_s _ _ _ _, ?_⟩
      rw [show b - k - 1 = r by omega]
      exact ⟨⟨z2, z3, hro⟩, fun o' y1 y2 y3 => Classical.byContradiction fun y => z5 o' y1 (by omega) y2 ((key o' y1 y2).mpr y3)⟩
    · exact k4 k (by omega) q2
/-- what the reference has found -/
def rngR (N σ : Mm) (e : Nat) : Prop := (N 0 70 = 0 ∧ ∀ e' k : Nat, e' < e → k < 7 → ¬ rwk σ e' k e') ∨ ∃ m e' : Nat, m < 7 ∧ N 0 70 = ((m + 1 : Nat) : Int) ∧ e' < e ∧ rwk σ e' m e' ∧ (∀ e'' k : Nat, e'' < e → k < m → ¬ rwk σ e'' k e'') ∧ (∀ e'' : Nat, e'' < e' → ¬ rwk σ e'' m e'') ∧ N 45 0 = (e' : Int) ∧ pthC (N 45) σ e' (m + 1) 1
theorem rngR_fr {N N' : Mm} {e : Nat} (h : rngR N σ e) (f : Fr cdR [44] N N') : rngR N' σ e := by
  have e1 : N' 0 70 = N 0 70 := f 0 70 rfl
  have e2 : N' 45 = N 45 := f.row (k := 45) (fun _ => rfl)
  unfold rngR at h ⊢
  rw [e1, e2]; exact h
theorem l_m_fr7 (n : Nat) (hn : 3000 ≤ n) (hI : Inv σ) : ∀ (k e g : Nat) (N : Mm), e + k = (σ 0 1).toNat → k < g → AgR N σ → ETb (N 43) σ → rngR N σ e → ∃ N', lp_m_findRing_7 n g e N = some (0, N') ∧ AgR N' σ ∧ rngR N' σ (σ 0 1).toNat := by
  have bh := hI.1.2.1
  intro k
  induction k with
  | zero =>
    intro e g N he hg hA hE hR
    obtain ⟨g', rfl, _⟩ := f_pos hg
    have e1 : e = (σ 0 1).toNat := by omega
    subst e1
    show ∃ N', f_m_findRing_7 n (lp_m_findRing_7 n g') _ N = _ ∧ _
    unfold f_m_findRing_7
    rw [ifp (by rw [hA 0 1 rfl]; omega)]
    exact ⟨N, rfl, hA, hR⟩
  | succ k ih =>
    intro e g N he hg hA hE hR
    obtain ⟨g', rfl, hg'⟩ := f_pos hg
    show ∃ N', f_m_findRing_7 n (lp_m_findRing_7 n g') e N = _ ∧ _
    obtain ⟨b, N1, a1, a2, a3, a4⟩ := e_m_around n hn hI hA hE (e := e) (by omega)
    have hA1 := hA.fr a2 (by decide)
    have hE1 : ETb (N1 43) σ := by rw [a2.row (k := 43) (fun _ => rfl)]; exact hE
    have hR1 := rngR_fr hR a2
    unfold f_m_findRing_7 f_m_findRing_125 f_m_findRing_45
    rw [ifn (by rw [hA 0 1 rfl]; omega), a1, bnd_mk]
    simp only [w_succ (show e < 2000000000 by omega)]
    rcases a4 with ⟨q1, q2⟩ | ⟨m, q1, q2, q3, q4⟩
    · rw [ifp q1]
      refine ih (e + 1) g' N1 (by omega) hg' hA1 hE1 ?_
      rcases hR1 with ⟨r1, r2⟩ | ⟨m, e', r0, r1, r2, r3, r4, r5, r6⟩
      · refine Or.inl ⟨r1, fun e' k h1 h2 => ?_⟩
        by_cases z : e' = e
        · rw [z]; exact q2 k h2
        · exact r2 e' k (by omega) h2
      · refine Or.inr ⟨m, e', r0, r1, by omega, r3, fun e'' k h1 h2 => ?_, r5, r6⟩
        by_cases z : e'' = e
        · rw [z]; exact q2 k (by omega)
        · exact r4 e'' k (by omega) h2
    · have hset : (∀ e'' : Nat, e'' < e → ∀ k, k < m + 1 → ¬ rwk σ e'' k e'') → ∃ N', lp_m_findRing_62 n (lp_m_findRing_7 n g') n e b e 1 (mset (mset N1 0 70 b) 45 (0 : Int).toNat e) = some (0, N') ∧ AgR N' σ ∧ rngR N' σ (σ 0 1).toNat := fun hno => by
        have fr : Fr cdR [1070, 45] N1 (mset (mset N1 0 70 b) 45 (0 : Int).toNat e) := (Fr.rf.set rfl).set rfl
        rw [q2] at fr ⊢
        obtain ⟨N2, k1, k2, k3, k4⟩ := l_m_fr62 n hn hI (lp_m_findRing_7 n g') (e := e) (b := m + 1) (by omega) (by omega) m 1 n e _ (by omega) (by omega) (Nat.le_refl 1) (hA1.fr fr (by decide)) (by rw [fr.row (k := 43) (fun _ => rfl)]; exact hE1) (fun f' h1 h2 => by
          have := a3 f' h1 h2
          unfold dDT at this ⊢
          rw [fr 44 f' rfl]; exact this) (mg_s _ _ _ _) (by omega) q3 q4
        have k1' : lp_m_findRing_62 n (lp_m_findRing_7 n g') n e ((m + 1 : Nat) : Int) e 1 _ = _ := k1
        rw [k1']
        have f2 := fr.trans (k2.mono (by decide))
        refine ih (e + 1) g' N2 (by omega) hg' (hA1.fr f2 (by decide)) (by rw [f2.row (k := 43) (fun _ => rfl)]; exact hE1) (Or.inr ⟨m, e, q1, ?_, by omega, q3, fun e'' k h1 h2 => ?_, fun e'' h1 => hno e'' h1 m (by omega), ?_, k4⟩)
        · rw [k2 0 70 rfl, mg_k _ _ _ (by decide), mg_s]
        · by_cases z : e'' = e
          · rw [z]; exact q4 k h2
          · exact hno e'' (by omega) k (by omega)
        · rw [k3 0 (by decide)]; exact mg_s _ _ _ _
      rw [ifn (show ¬ 7 < b by omega)]
      rcases hR1 with ⟨r1, r2⟩ | ⟨m', e', r0, r1, r2, r3, r4, r5, r6⟩
      · rw [ifp (by omega)]
        exact hset fun e'' h1 k h2 => r2 e'' k h1 (by omega)
      · rw [ifn (by omega), r1]
        by_cases c : b < ((m' + 1 : Nat) : Int)
        · rw [ifp c]
          exact hset fun e'' h1 k h2 => r4 e'' k h1 (by omega)
        · rw [ifn c]
          refine ih (e + 1) g' N1 (by omega) hg' hA1 hE1 (Or.inr ⟨m', e', r0, r1, by omega, r3, fun e'' k h1 h2 => ?_, r5, r6⟩)
          by_cases z : e'' = e
          · rw [z]; exact q4 k (by omega)
          · exact r4 e'' k (by omega) h2
theorem e_m_findRing (n : Nat) (hn : 3000 ≤ n) (hI : Inv σ) (hA : AgR N σ) (hE : ETb (N 43) σ) : ∃ N', f_m_findRing n N = some (0, N') ∧ AgR N' σ ∧ rngR N' σ (σ 0 1).toNat := by
  have bh := hI.1.2.1
  have fr : Fr cdR [1070] N (mset N 0 70 0) := Fr.rf.set rfl
  exact l_m_fr7 n hn hI (σ 0 1).toNat 0 n (mset N 0 70 0) (by omega) (by omega) (hA.fr fr (by decide)) (by rw [fr.row (k := 43) (fun _ => rfl)]; exact hE) (Or.inl ⟨mg_s _ _ _ _, fun e' k h => absurd h (Nat.not_lt_zero e')⟩)
/-- firms beyond e from which e is at most k + 1 steps away -/
noncomputable def nrB (σ : Mm) (e k : Nat) : Nat → Bool := fun o => @decide (e < o ∧ ∃ r, r ≤ k ∧ rwk σ e r o) (Classical.propDecidable _)
theorem nrB_t {e k o : Nat} : nrB σ e k o = true ↔ (e < o ∧ ∃ r, r ≤ k ∧ rwk σ e r o) := by
  unfold nrB
  exact @decide_eq_true_iff _ (Classical.propDecidable _)
theorem nrB_f {e k o : Nat} (h : ¬ (e < o ∧ ∃ r, r ≤ k ∧ rwk σ e r o)) : nrB σ e k o = false := by
  cases c : nrB σ e k o with
  | false => rfl
  | true => exact absurd (nrB_t.mp c) h
theorem nr_cnt (e : Nat) : ∀ (k o : Nat), e < o → rwk σ e k o → (∀ r, r < k → ¬ rwk σ e r o) → k + 1 ≤ cn (σ 0 1).toNat (nrB σ e k)
  | 0, o, h1, h2, h3 => by
    have := cn_lt (p := nrB σ e 0) (show o < (σ 0 1).toNat by have := (rwk_F h2).1; omega) (nrB_t.mpr ⟨h1, 0, Nat.le_refl 0, h2⟩)
    omega
  | k + 1, o, h1, h2, h3 => by
    obtain ⟨o', p1, p2, p3⟩ := h2
    have h4 := nr_cnt e k o' p1 p3 fun r hr w => h3 (r + 1) (by omega) ⟨o', p1, p2, w⟩
    have h5 := cn_less (p := nrB σ e k) (q := nrB σ e (k + 1)) (fun i hi => by
      obtain ⟨q1, r, q2, q3⟩ := nrB_t.mp hi
      exact nrB_t.mpr ⟨q1, r, by omega, q3⟩) (x := o) (k := (σ 0 1).toNat) (by have := p2.1; omega) (nrB_f fun ⟨_, r, q2, q3⟩ => h3 r (by omega) q3) (nrB_t.mpr ⟨h1, k + 1, Nat.le_refl _, o', p1, p2, p3⟩)
    omega
theorem ring_few {e m : Nat} (h : rwk σ e m e) (hm : ∀ r, r < m → ¬ rwk σ e r e) : m + 1 ≤ cn (σ 0 1).toNat (isF (σ 1)) := by
  have hF := rwk_F h
  cases m with
  | zero =>
    have := cn_lt (p := isF (σ 1)) (show e < (σ 0 1).toNat by omega) hF.2
    omega
  | succ m =>
    obtain ⟨o, p1, p2, p3⟩ := h
    have h4 := nr_cnt e m o p1 p3 fun r hr w => hm (r + 1) (by omega) ⟨o, p1, p2, w⟩
    have h5 := cn_less (p := nrB σ e m) (q := isF (σ 1)) (fun i hi => by
      obtain ⟨q1, r, q2, q3⟩ := nrB_t.mp hi
      exact (rwk_F q3).2) (x := e) (k := (σ 0 1).toNat) (by omega) (nrB_f fun q => Nat.lt_irrefl e q.1) hF.2
    omega
theorem pth_eq {r r' : Nat → Int} {e size : Nat} (h : pthC r σ e size 1) (h' : pthC r' σ e size 1) (h0 : r 0 = r' 0) : ∀ i, i < size → r i = r' i
  | 0, _ => h0
  | i + 1, hi => by
    obtain ⟨f, o, p1, p2, p3⟩ := h (i + 1) (by omega) hi
    obtain ⟨f', o', q1, q2, q3⟩ := h' (i + 1) (by omega) hi
    have e1 := pth_eq h h' h0 i (by omega)
    rw [Nat.add_sub_cancel] at p1 q1
    have : f = f' := by omega
    subst this
    rw [p2, q2, isLn_eq p3 q3]
theorem ring_both (hI : Inv σ) {s : Nat} (hC : rngC M σ s) (hR : rngR N σ (σ 0 1).toNat) : N 0 70 = (s : Int) ∧ s ≤ 7 ∧ ∀ i, i < s → M 59 i = N 45 i := by
  have bh := hI.1.2.1
  have h7 : (cn (σ 0 1).toNat (isF (σ 1)) : Int) ≤ 7 := by have := hI.1.2.2.2.2.2; omega
  rcases hR with ⟨r1, r2⟩ | ⟨m, e', r0, r1, r2, r3, r4, r5, r6, r7⟩
  · rcases hC with ⟨c1, c2⟩ | ⟨c1, c2, e, c3, c4, c5⟩
    · subst c1
      exact ⟨r1, by omega, fun i hi => absurd hi (Nat.not_lt_zero i)⟩
    · exact absurd c4 (r2 e (s - 1) (by have := (rwk_F c4).1; omega) (by omega))
  · have hfew := ring_few r3 fun r hr => r4 e' r r2 hr
    rcases hC with ⟨c1, c2⟩ | ⟨c1, c2, e, c3, c4, c5, c6⟩
    · exact absurd r3 (c2 m e' (by omega))
    · have es : s = m + 1 := by
        rcases Nat.lt_trichotomy s (m + 1) with w | w | w
        · exact absurd c4 (r4 e (s - 1) (by have := (rwk_F c4).1; omega) (by omega))
        · exact w
        · exact absurd r3 (c2 m e' (by omega))
      subst es
      rw [Nat.add_sub_cancel] at c4 c5
      have ee : e = e' := by
        rcases Nat.lt_trichotomy e e' with w | w | w
        · exact absurd c4 (r5 e w)
        · exact w
        · exact absurd r3 (c5 e' w)
      subst ee
      exact ⟨r1, by omega, pth_eq c6 r7 (by rw [c3, r6])⟩
theorem q_ring (n : Nat) (hn : 3000 ≤ n) (i : Int) (hJ : J M N) : Sim (f_W_ring n i M) (f_m_ring n i N) := by
  obtain ⟨σ, hI, hA, hC⟩ := hJ
  obtain ⟨s, M1, m1, m2, m3⟩ := e_F_findRing n hn hI hC
  obtain ⟨N1, g1, g2, g3⟩ := e_m_layOut n hn hI hA (σ 0 0)
  have hA1 := hA.fr g2 (by decide)
  obtain ⟨N2, k1, k2, k3⟩ := e_m_findInto n hn hI hA1 (fun s hs => (g3 s hs).1)
  obtain ⟨N3, l1, l2, l3⟩ := e_m_findRing n hn hI (hA1.fr k2 (by decide)) k3
  obtain ⟨p1, p2, p3⟩ := ring_both hI m3 l3
  unfold f_W_ring f_m_ring
  rw [hA 0 0 rfl, g1, bnd_mk, k1, bnd_mk, l1, bnd_mk, p1, e_m_in, bnd_mk, w32_s (by omega) (by omega)]
  by_cases c : -1 ≤ i
  · rw [ifp c, m1, bnd_mk]
    by_cases c1 : i = -1
    · rw [ifn (fun z => z c1), ifn (fun z => z c1)]
      exact Sim.same ⟨σ, hI, l2, m2⟩ _
    · rw [ifp c1, ifp c1]
      by_cases c2 : (s : Int) ≤ i
      · rw [ifp c2, ifn (show ¬ (0 ≤ i ∧ i ≤ (s : Int) - 1) by omega), i0]
        exact Sim.same ⟨σ, hI, l2, m2⟩ _
      · rw [ifn c2, ifp (show 0 ≤ i ∧ i ≤ (s : Int) - 1 by omega), i1, ckp (by omega), ckp (by omega), p3 i.toNat (by omega)]
        exact Sim.same ⟨σ, hI, l2, m2⟩ _
  · rw [ifn c, ifp (show i ≠ -1 by omega), ifn (show ¬ (0 ≤ i ∧ i ≤ (s : Int) - 1) by omega), i0]
    exact Sim.same ⟨σ, hI, l2, hC⟩ _
end
