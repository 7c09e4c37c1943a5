/-! worth(..): the class. -/
section
variable {σ : Mm} {M N : Mm}
noncomputable def oQb (σ : Mm) (f : Nat) : Nat → Bool := fun c => oPb σ c && decide (c ≠ f)
noncomputable def oCl (σ : Mm) (f : Nat) (i : Nat) : Nat := if i < cn (σ 0 1).toNat (oQb σ f) then pkN (σ 0 1).toNat (oQb σ f) i else f
theorem oQb_F {f c : Nat} (h : oQb σ f c = true) : Opn σ c ∧ c ≠ f := by
  unfold oQb at h
  rw [Bool.and_eq_true, decide_eq_true_eq, oPb_t] at h
  exact h
theorem oQb_lt (hI : Inv σ) {f : Nat} (hf : (f : Int) < σ 0 1) (hF : isF (σ 1) f = true) : cn (σ 0 1).toNat (oQb σ f) < 7 := by
  have h7 : (cn (σ 0 1).toNat (isF (σ 1)) : Int) ≤ 7 := by have := hI.1.2.2.2.2.2; omega
  have := cn_less (p := oQb σ f) (q := isF (σ 1)) (fun i hi => (Opn_F (oQb_F hi).1).2) (x := f) (k := (σ 0 1).toNat) (by omega) (by
    cases c : oQb σ f f with
    | false => rfl
    | true => exact absurd rfl (oQb_F c).2) hF
  omega
theorem oQb_n {f : Nat} (hf : (f : Int) < σ 0 1) (hO : Opn σ f) : cn (σ 0 1).toNat (oPb σ) = cn (σ 0 1).toNat (oQb σ f) + 1 := by
  have := cn_upd (p := oQb σ f) (q := oPb σ) (x := f) (by
    cases c : oQb σ f f with
    | false => rfl
    | true => exact absurd rfl (oQb_F c).2) (oPb_t.mpr hO) (fun i hi => by unfold oQb; rw [decide_eq_true hi, Bool.and_true]) (σ 0 1).toNat
  rw [ifp (by omega)] at this
  exact this
theorem oCl_lst {f : Nat} (hO : Opn σ f) : LST σ (cn (σ 0 1).toNat (oQb σ f) + 1) (oCl σ f) := by
  have e1 : ∀ i, i < cn (σ 0 1).toNat (oQb σ f) → oCl σ f i = pkN (σ 0 1).toNat (oQb σ f) i := fun i hi => by unfold oCl; rw [ifp hi]
  have e2 : ∀ i, i < cn (σ 0 1).toNat (oQb σ f) + 1 → ¬ i < cn (σ 0 1).toNat (oQb σ f) → oCl σ f i = f := fun i _ hn => by unfold oCl; rw [ifn hn]
  refine ⟨fun i hi => ?_, fun i j hi hj he => ?_, fun c hc => ?_⟩
  · by_cases q : i < cn (σ 0 1).toNat (oQb σ f)
    · rw [e1 i q]; exact (oQb_F (pkN_in q).2.1).1
    · rw [e2 i hi q]; exact hO
  · by_cases q : i < cn (σ 0 1).toNat (oQb σ f)
    · by_cases q2 : j < cn (σ 0 1).toNat (oQb σ f)
      · rw [e1 i q, e1 j q2] at he; exact pkN_inj q q2 he
      · rw [e1 i q, e2 j hj q2] at he; exact absurd he (oQb_F (pkN_in q).2.1).2
    · by_cases q2 : j < cn (σ 0 1).toNat (oQb σ f)
      · rw [e2 i hi q, e1 j q2] at he; exact absurd he.symm (oQb_F (pkN_in q2).2.1).2
      · omega
  · by_cases q : c = f
    · exact ⟨cn (σ 0 1).toNat (oQb σ f), by omega, by unfold oCl; rw [ifn (Nat.lt_irrefl _), q]⟩
    · have hq : oQb σ f c = true := by unfold oQb; rw [oPb_t.mpr hc, decide_eq_true q]; rfl
      have hlt : c < (σ 0 1).toNat := by have := (Opn_F hc).1; omega
      have h1 := cn_lt hlt hq
      exact ⟨cn c (oQb σ f), by omega, by rw [e1 _ h1]; exact pkN_eq hlt hq⟩
theorem e_F_putInOrder (n : Nat) (hn : 3000 ≤ n) (hI : Inv σ) (hC : RelC M σ) {f : Nat} (hf : (f : Int) < σ 0 1) (hF : isF (σ 1) f = true) {x : Int} (h1 : ∀ y, bI x y = true → Opn σ y) (h2 : ∀ c : Nat, (c : Int) < σ 0 1 → isF (σ 1) c = true → Opn σ c → bI x c = true) : ∃ M', f_F_putInOrder n x f M = some (((cn (σ 0 1).toNat (oQb σ f) + 1 : Nat) : Int), M') ∧ Fr cdC [61] M M' ∧ ∀ i, i < cn (σ 0 1).toNat (oQb σ f) + 1 → M' 61 i = (oCl σ f i : Int) := by
  have bh := hI.1.2.1
  have h7 : (cn (σ 0 1).toNat (isF (σ 1)) : Int) ≤ 7 := by have := hI.1.2.2.2.2.2; omega
  have hlt7 := oQb_lt hI hf hF
  have go : ∀ (k h g : Nat) (M : Mm), h + k = (σ 0 1).toNat → k < g → RelC M σ → (∀ i, i < cn h (oQb σ f) → M 61 i = (oCl σ f i : Int)) → ∃ M', lp_F_putInOrder_5 n g x f (cn h (oQb σ f)) (cn h (isF (σ 1))) M = some (((cn (σ 0 1).toNat (oQb σ f) + 1 : Nat) : Int), M') ∧ Fr cdC [61] M M' ∧ ∀ i, i < cn (σ 0 1).toNat (oQb σ f) + 1 → M' 61 i = (oCl σ f i : Int) := by
    intro k
    induction k with
    | zero =>
      intro h g M hh hg hC hP
      obtain ⟨g', rfl, _⟩ := f_pos hg
      have e : h = (σ 0 1).toNat := by omega
      subst e
      show ∃ M', f_F_putInOrder_5 n (lp_F_putInOrder_5 n g') _ _ _ _ M = _ ∧ _
      unfold f_F_putInOrder_5
      rw [ifp (by rw [hC.1.2.2.1, hI.1.2.2.2.2.2.1]; exact Int.le_refl _), ckp (by omega), Int.toNat_natCast, w_succ (by omega)]
      refine ⟨_, rfl, Fr.rf.set rfl, fun i hi => ?_⟩
      by_cases q : i = cn (σ 0 1).toNat (oQb σ f)
      · rw [q, mg_s]
        unfold oCl
        rw [ifn (Nat.lt_irrefl _)]
      · rw [mg_j _ _ _ q]; exact hP i (by omega)
    | succ k ih =>
      intro h g M hh hg hC hP
      by_cases hFh : isF (σ 1) h = true
      · obtain ⟨g', rfl, hg'⟩ := f_pos hg
        show ∃ M', f_F_putInOrder_5 n (lp_F_putInOrder_5 n g') _ _ _ _ M = _ ∧ _
        have hlt := cn_lt (p := isF (σ 1)) (show h < (σ 0 1).toNat by omega) hFh
        have h19 := hC.1.2.2.2.2.2.2.2.1 h (by omega) hFh
        have hmono := cn_mono (oQb σ f) (show h ≤ (σ 0 1).toNat by omega)
        have skip : oQb σ f h = false → ∃ M', lp_F_putInOrder_5 n g' x f (cn h (oQb σ f)) (cn (h + 1) (isF (σ 1))) M = some (((cn (σ 0 1).toNat (oQb σ f) + 1 : Nat) : Int), M') ∧ Fr cdC [61] M M' ∧ ∀ i, i < cn (σ 0 1).toNat (oQb σ f) + 1 → M' 61 i = (oCl σ f i : Int) := fun w => by
          have := ih (h + 1) g' M (by omega) hg' hC (by rw [cn_f w]; exact hP)
          rw [cn_f w] at this
          exact this
        unfold f_F_putInOrder_5 f_F_putInOrder_56
        simp only [ifn (show ¬ M 1 2 ≤ ((cn h (isF (σ 1)) : Nat) : Int) by rw [hC.1.2.2.1, hI.1.2.2.2.2.2.1]; omega), ckp (show (0 : Int) ≤ ((cn h (isF (σ 1)) : Nat) : Int) ∧ ((cn h (isF (σ 1)) : Nat) : Int) < 7 by omega), Int.toNat_natCast, h19, w_succ (show cn h (isF (σ 1)) < 2000000000 by omega), ← cn_t hFh, bit_I (show h < 32 by omega)]
        by_cases c : h = f
        · rw [ifp (by omega)]
          exact skip (by unfold oQb; rw [decide_eq_false (fun z => z c), Bool.and_false])
        · rw [ifn (by omega)]
          by_cases c2 : bI x h = true
          · have hq : oQb σ f h = true := by unfold oQb; rw [oPb_t.mpr (h1 h c2), decide_eq_true c]; rfl
            have hlq := cn_lt (show h < (σ 0 1).toNat by omega) hq
            rw [ifp c2, ifn (show ¬ (1 : Int) ≠ 1 by decide), ckp (by omega), w_succ (by omega), ← cn_t hq]
            have fr : Fr cdC [61] M (mset M 61 (cn h (oQb σ f)) (h : Int)) := Fr.rf.set rfl
            obtain ⟨M2, k1, k2, k3⟩ := ih (h + 1) g' (mset M 61 (cn h (oQb σ f)) (h : Int)) (by omega) hg' (hC.fr fr (by decide)) (fun i hi => by
              rw [cn_t hq] at hi
              by_cases q : i = cn h (oQb σ f)
              · rw [q, mg_s]
                unfold oCl
                rw [ifp hlq, pkN_eq (by omega) hq]
              · rw [mg_j _ _ _ q]; exact hP i (by omega))
            exact ⟨M2, k1, fr.trans k2, k3⟩
          · rw [ifn c2, ifp (show (0 : Int) ≠ 1 by decide)]
            refine skip ?_
            cases q : oQb σ f h with
            | false => rfl
            | true => exact absurd (h2 h (by omega) hFh (oQb_F q).1) c2
      · have e : cn (h + 1) (isF (σ 1)) = cn h (isF (σ 1)) := cn_f (by simpa using hFh)
        have eq : cn (h + 1) (oQb σ f) = cn h (oQb σ f) := cn_f (by
          cases q : oQb σ f h with
          | false => rfl
          | true => exact absurd (Opn_F (oQb_F q).1).2 hFh)
        have := ih (h + 1) g M (by omega) (by omega) hC (by rw [eq]; exact hP)
        rw [e, eq] at this
        exact this
  exact go (σ 0 1).toNat 0 n M (by omega) (by omega) hC (fun i hi => absurd hi (Nat.not_lt_zero i))
def LNL : List Nat := [200, 201, 202, 203, 204, 205, 206]
theorem elL {a : Nat} (ha : a < 7) (j : Nat) : LNL.elem (cdC (200 + a) j) = true := by
  have e : cdC (200 + a) j = 200 + a := by unfold cdC; rw [ifn (by omega)]
  rw [e]
  have : ∀ a, a < 7 → LNL.elem (200 + a) = true := by decide
  exact this a ha
/-- the class's table of what comes to whom -/
def HPt (M σ : Mm) : Prop := ∀ c, Opn σ c → ∀ h, h < 16 → M (180 + c) h = hp σ c h
theorem l_F_wl10 (n : Nat) (hn : 3000 ≤ n) (hI : Inv σ) {m : Nat} (hm : m < 7) {o : Nat → Nat} (hL : LST σ (m + 1) o) {hld : Nat} (hh : hld < 16) (k2 : Int → Int → Int → Mm → Rr) {a : Nat} (ha : a < m + 1) : ∀ (k b g : Nat) (M : Mm), b + k = m + 1 → k < g → (∀ i, i < m + 1 → M 61 i = (o i : Int)) → HPt M σ → (∀ b', b' < b → M (200 + a) b' = AMx σ (m + 1) o hld a b') → ∃ M', lp_F_writeLines_10 n k2 g ((m + 1 : Nat) : Int) hld a b M = k2 ((m + 1 : Nat) : Int) hld ((a + 1 : Nat) : Int) M' ∧ Fr cdC LNL M M' ∧ (∀ b', b' < m + 2 → M' (200 + a) b' = AMx σ (m + 1) o hld a b') ∧ ∀ a' j, a' ≠ a → M' (200 + a') j = M (200 + a') j := by
  have bh := hI.1.2.1
  have oin : ∀ i, i < m + 1 → o i < 16 := fun i hi => by have := (Opn_F (hL.1 i hi)).1; omega
  intro k
  induction k with
  | zero =>
    intro b g M hb hg h61 hH hP
    obtain ⟨g', rfl, _⟩ := f_pos hg
    have e : b = m + 1 := by omega
    subst e
    show ∃ M', f_F_writeLines_10 n k2 (lp_F_writeLines_10 n k2 g') _ _ _ _ M = _ ∧ _
    have ho := oin a ha
    unfold f_F_writeLines_10
    rw [ifp (Int.le_refl _), ckp (by omega), ckp (by omega), Int.toNat_natCast, h61 a ha, ckp (by omega), ckp (by omega), ckp (by omega), Int.toNat_natCast, Int.toNat_natCast, Int.toNat_natCast, hH _ (hL.1 a ha) hld hh, w_succ (by omega)]
    refine ⟨_, rfl, Fr.rf.set (elL (by omega) _), fun b' hb' => ?_, fun a' j hne => by rw [mg_k _ _ _ (by omega)]⟩
    by_cases q : b' = m + 1
    · rw [q, mg_s]; unfold AMx; rw [ifn (Nat.lt_irrefl _)]
    · rw [mg_j _ _ _ q]; exact hP b' (by omega)
  | succ k ih =>
    intro b g M hb hg h61 hH hP
    obtain ⟨g', rfl, hg'⟩ := f_pos hg
    show ∃ M', f_F_writeLines_10 n k2 (lp_F_writeLines_10 n k2 g') _ _ _ _ M = _ ∧ _
    have ho := oin a ha
    have hob := oin b (by omega)
    have hp1 := hp_nn hI (o a) (o b)
    have hp2 := row_12 hI hL (o a)
    have hp3 := hpa_12 hI (o a)
    have hp4 := sm_one (g := fun j => hp σ (o a) (o j)) (k := m + 1) (i := b) (by omega) (fun i _ => hp_nn hI _ _)
    have tail : ∀ s2 : Int, s2 = (if a = b then 12 else 0) → ∃ M', f_F_writeLines_36 n k2 (lp_F_writeLines_10 n k2 g') ((m + 1 : Nat) : Int) hld a b a b s2 M = k2 ((m + 1 : Nat) : Int) hld ((a + 1 : Nat) : Int) M' ∧ Fr cdC LNL M M' ∧ (∀ b', b' < m + 2 → M' (200 + a) b' = AMx σ (m + 1) o hld a b') ∧ ∀ a' j, a' ≠ a → M' (200 + a') j = M (200 + a') j := fun s2 hs => by
      have e1 : w32 (s2 - hp σ (o a) (o b)) = AMx σ (m + 1) o hld a b := by
        have hp4' : hp σ (o a) (o b) ≤ sm (m + 1) (fun j => hp σ (o a) (o j)) := hp4
        have : s2 = 12 ∨ s2 = 0 := by rw [hs]; split; exact Or.inl rfl; exact Or.inr rfl
        rw [w32_s (by omega) (by omega), hs]
        unfold AMx
        rw [ifp (show b < m + 1 by omega)]
      unfold f_F_writeLines_36
      simp only [ckp (show (0 : Int) ≤ (a : Int) ∧ (a : Int) < 7 by omega), Int.toNat_natCast, h61 a ha, h61 b (show b < m + 1 by omega), ckp (show (0 : Int) ≤ (o a : Int) ∧ (o a : Int) < 16 by omega), ckp (show (0 : Int) ≤ (b : Int) ∧ (b : Int) < 7 by omega), ckp (show (0 : Int) ≤ (o b : Int) ∧ (o b : Int) < 16 by omega), ckp (show (0 : Int) ≤ (b : Int) ∧ (b : Int) < 8 by omega), hH _ (hL.1 a ha) (o b) hob, e1, w_succ (show b < 2000000000 by omega)]
      have fr : Fr cdC LNL M (mset M (200 + a) b (AMx σ (m + 1) o hld a b)) := Fr.rf.set (elL (by omega) _)
      obtain ⟨M2, k1, k2', k3, k4⟩ := ih (b + 1) g' (mset M (200 + a) b (AMx σ (m + 1) o hld a b)) (by omega) hg' (fun i hi => by rw [mg_k _ _ _ (by omega)]; exact h61 i hi) (fun c hc h hh => by
        have := (Opn_F hc).1
        rw [mg_k _ _ _ (by omega)]; exact hH c hc h hh) (fun b' hb' => by
        by_cases q : b' = b
        · rw [q, mg_s]
        · rw [mg_j _ _ _ q]; exact hP b' (by omega))
      exact ⟨M2, k1, fr.trans k2', k3, fun a' j hne => by rw [k4 a' j hne, mg_k _ _ _ (by omega)]⟩
    unfold f_F_writeLines_10
    rw [ifn (by omega), ckp (by omega)]
    by_cases c : a = b
    · rw [ifn (show ¬ (a : Int) ≠ (b : Int) by omega)]
      exact tail 12 (by rw [ifp c])
    · rw [ifp (show (a : Int) ≠ (b : Int) by omega)]
      exact tail 0 (by rw [ifn c])
theorem e_F_writeLines (n : Nat) (hn : 3000 ≤ n) (hI : Inv σ) {m : Nat} (hm : m < 7) {o : Nat → Nat} (hL : LST σ (m + 1) o) {hld : Nat} (hh : hld < 16) (h61 : ∀ i, i < m + 1 → M 61 i = (o i : Int)) (hH : HPt M σ) : ∃ M', f_F_writeLines n ((m + 1 : Nat) : Int) hld M = some (0, M') ∧ Fr cdC LNL M M' ∧ ∀ a b, a < m + 1 → b < m + 2 → M' (200 + a) b = AMx σ (m + 1) o hld a b := by
  have bh := hI.1.2.1
  have go : ∀ (k a g : Nat) (M : Mm), a + k = m + 1 → k < g → (∀ i, i < m + 1 → M 61 i = (o i : Int)) → HPt M σ → (∀ a' b, a' < a → b < m + 2 → M (200 + a') b = AMx σ (m + 1) o hld a' b) → ∃ M', lp_F_writeLines_2 n g ((m + 1 : Nat) : Int) hld a M = some (0, M') ∧ Fr cdC LNL M M' ∧ ∀ a b, a < m + 1 → b < m + 2 → M' (200 + a) b = AMx σ (m + 1) o hld a b := by
    intro k
    induction k with
    | zero =>
      intro a g M ha hg h61 hH hP
      obtain ⟨g', rfl, _⟩ := f_pos hg
      show ∃ M', f_F_writeLines_2 n (lp_F_writeLines_2 n g') _ _ _ M = _ ∧ _
      unfold f_F_writeLines_2
      rw [ifp (by omega)]
      exact ⟨M, rfl, Fr.rf, fun a' b h1 h2 => hP a' b (by omega) h2⟩
    | succ k ih =>
      intro a g M ha hg h61 hH hP
      obtain ⟨g', rfl, hg'⟩ := f_pos hg
      show ∃ M', f_F_writeLines_2 n (lp_F_writeLines_2 n g') _ _ _ M = _ ∧ _
      obtain ⟨M1, z1, z2, z3, z4⟩ := l_F_wl10 n hn hI hm hL hh (lp_F_writeLines_2 n g') (a := a) (by omega) (m + 1) 0 n M (by omega) (by omega) h61 hH (fun b' h => absurd h (Nat.not_lt_zero b'))
      have z1' : lp_F_writeLines_10 n (lp_F_writeLines_2 n g') n ((m + 1 : Nat) : Int) hld a 0 M = _ := z1
      unfold f_F_writeLines_2
      rw [ifn (by omega), z1']
      obtain ⟨M2, k1, k2, k3⟩ := ih (a + 1) g' M1 (by omega) hg' (fun i hi => by rw [z2 61 i rfl]; exact h61 i hi) (fun c hc h hh => by
        have hc16 := (Opn_F hc).1
        have e1 : LNL.elem (cdC (180 + c) h) = false := by
          have e : cdC (180 + c) h = 180 + c := by unfold cdC; rw [ifn (by omega)]
          rw [e]
          have : ∀ c, c < 16 → LNL.elem (180 + c) = false := by decide
          exact this c (by omega)
        rw [z2 _ _ e1]; exact hH c hc h hh) (fun a' b h1 h2 => by
        by_cases q : a' = a
        · rw [q]; exact z3 b h2
        · rw [z4 a' b q]; exact hP a' b (by omega) h2)
      exact ⟨M2, k1, z2.trans k2, k3⟩
  exact go (m + 1) 0 n M (by omega) (by omega) h61 hH (fun a' b h => absurd h (Nat.not_lt_zero a'))
theorem p24_6 : ∀ k, k < 6 → (24 : Int) ^ (k + 1) ≤ 191102976 := by decide
theorem mul_bd {x y B C : Int} (hx : -B ≤ x ∧ x ≤ B) (hy : -C ≤ y ∧ y ≤ C) : -(B * C) ≤ x * y ∧ x * y ≤ B * C := by
  have hB : 0 ≤ B := by omega
  have hC : 0 ≤ C := by omega
  have h1 : 0 ≤ (B - x) * (C - y) := Int.mul_nonneg (by omega) (by omega)
  have h2 : 0 ≤ (B + x) * (C + y) := Int.mul_nonneg (by omega) (by omega)
  have h3 : 0 ≤ (B - x) * (C + y) := Int.mul_nonneg (by omega) (by omega)
  have h4 : 0 ≤ (B + x) * (C - y) := Int.mul_nonneg (by omega) (by omega)
  constructor
  · grind
  · grind
/-- stage k: what is left to do, as bordered minors -/
def ELk (M : Mm) (A : Nat → Nat → Int) (m k : Nat) : Prop := ∀ a b, k ≤ a → a < m + 1 → k ≤ b → b < m + 2 → M (200 + a) b = Bm A k a b
theorem l_F_el31 (n : Nat) (hn : 3000 ≤ n) {A : Nat → Nat → Int} {m : Nat} (hm : m < 7) (hM : MMx A (m + 1)) (hN : NRM A (m + 1)) (k5 : Int → Int → Int → Mm → Rr) (k19 : Int → Int → Int → Int → Mm → Rr) {k a : Nat} (hk : k < m) (ha : k + 1 ≤ a ∧ a < m + 1) : ∀ (r b g : Nat) (M : Mm), b + r = m + 2 → r < g → k + 1 ≤ b → (∀ a' b', k ≤ a' → a' < m + 1 → k ≤ b' → b' < m + 2 → (a' ≠ a ∧ (a' = k ∨ b' = k ∨ a < a') → M (200 + a') b' = Bm A k a' b') ∧ (a' = a → M (200 + a') b' = if k + 1 ≤ b' ∧ b' < b then Bm A (k + 1) a' b' else Bm A k a' b')) → ∃ M', lp_F_eliminate_31 n k5 k19 g ((m + 1 : Nat) : Int) (Dk A k) k a b M = k19 ((m + 1 : Nat) : Int) (Dk A k) k ((a + 1 : Nat) : Int) M' ∧ Fr cdC LNL M M' ∧ (∀ a' j, a' ≠ a → M' (200 + a') j = M (200 + a') j) ∧ ∀ b', k ≤ b' → b' < m + 2 → M' (200 + a) b' = if k + 1 ≤ b' then Bm A (k + 1) a b' else Bm A k a b' := by
  have hMK := MK_all hM (m + 1) (Nat.le_refl _)
  have hDp : ∀ s, s ≤ m + 1 → 0 < Dk A s := hMK.2.2.2.2
  have hD : ∀ s, s ≤ k + 1 → Dk A s ≠ 0 := fun s hs => by have := hDp s (by omega); omega
  intro r
  induction r with
  | zero =>
    intro b g M hb hg hkb hP
    obtain ⟨g', rfl, _⟩ := f_pos hg
    show ∃ M', f_F_eliminate_31 n k5 k19 (lp_F_eliminate_31 n k5 k19 g') _ _ _ _ _ M = _ ∧ _
    unfold f_F_eliminate_31
    rw [ifp (by omega), w_succ (by omega)]
    refine ⟨M, rfl, Fr.rf, fun _ _ _ => rfl, fun b' h1 h2 => ?_⟩
    rw [(hP a b' (by omega) ha.2 h1 h2).2 rfl]
    by_cases q : k + 1 ≤ b'
    · rw [ifp ⟨q, by omega⟩, ifp q]
    · rw [ifn (fun z => q z.1), ifn q]
  | succ r ih =>
    intro b g M hb hg hkb hP
    obtain ⟨g', rfl, hg'⟩ := f_pos hg
    show ∃ M', f_F_eliminate_31 n k5 k19 (lp_F_eliminate_31 n k5 k19 g') _ _ _ _ _ M = _ ∧ _
    have v1 := (hP k k (Nat.le_refl k) (by omega) (Nat.le_refl k) (by omega)).1 ⟨by omega, Or.inl rfl⟩
    have v2 := (hP a b (by omega) ha.2 (by omega) (by omega)).2 rfl
    rw [ifn (fun z => by omega)] at v2
    have v3 := (hP a k (by omega) ha.2 (Nat.le_refl k) (by omega)).2 rfl
    rw [ifn (fun z => by omega)] at v3
    have v4 := (hP k b (Nat.le_refl k) (by omega) (by omega) (by omega)).1 ⟨by omega, Or.inl rfl⟩
    have st := B_step (A := A) hD a b
    have p6 := p24_6 k (by omega)
    have hp0 : (0 : Int) ≤ 24 ^ (k + 1) := Int.pow_nonneg (by decide)
    have bd : ∀ i j, i < m + 1 → j < m + 2 → -191102976 ≤ Bm A k i j ∧ Bm A k i j ≤ 191102976 := fun i j hi hj => by
      have := Bm_le hN (k := k) (i := i) (j := j) (by omega) hi (by omega)
      omega
    have b1 := mul_bd (bd k k (by omega) (by omega)) (bd a b ha.2 (by omega))
    have b2 := mul_bd (bd a k ha.2 (by omega)) (bd k b (by omega) (by omega))
    have hD0 := hDp k (by omega)
    have hD24 : Dk A k ≤ 9223372036854775807 := by
      have := Dk_le hN (k := k) (by omega)
      have q : (24 : Int) ^ k ≤ 24 ^ (k + 1) := by rw [Int.pow_succ]; have := Int.pow_nonneg (n := 24) (m := k) (by decide); omega
      omega
    have hB1 : in64 (Bm A (k + 1) a b) := by
      have := Bm_le hN (k := k + 1) (i := a) (j := b) (by omega) ha.2 (by omega)
      have q : ∀ k, k < 6 → (24 : Int) ^ (k + 1 + 1) ≤ 4586471424 := by decide
      have := q k (by omega)
      constructor <;> omega
    have eq1 : ldv (w64 ((w64 (Bm A k k k * Bm A k a b)) - (w64 (Bm A k a k * Bm A k k b)))) (Dk A k) = Bm A (k + 1) a b := by
      rw [w64_id (x := Bm A k k k * Bm A k a b) (by omega) (by omega), w64_id (x := Bm A k a k * Bm A k k b) (by omega) (by omega), w64_id (by omega) (by omega)]
      exact ldv_ex ⟨by omega, by omega⟩ ⟨hD0, hD24⟩ hB1 st.symm
    unfold f_F_eliminate_31 f_F_eliminate_105
    simp only [ckp (show (0 : Int) ≤ (k : Int) ∧ (k : Int) < 7 by omega), ckp (show (0 : Int) ≤ (k : Int) ∧ (k : Int) < 8 by omega), ckp (show (0 : Int) ≤ (a : Int) ∧ (a : Int) < 7 by omega), ckp (show (0 : Int) ≤ (b : Int) ∧ (b : Int) < 8 by omega), Int.toNat_natCast, v1, v2, v3, v4, eq1, w_succ (show b < 2000000000 by omega), ckp (show Dk A k ≠ 0 by omega), ifp (show Dk A k ≠ 0 by omega)]
    rw [ifn (by omega)]
    have fr : Fr cdC LNL M (mset M (200 + a) b (Bm A (k + 1) a b)) := Fr.rf.set (elL (by omega) _)
    obtain ⟨M2, k1, k2, k3, k4⟩ := ih (b + 1) g' (mset M (200 + a) b (Bm A (k + 1) a b)) (by omega) hg' (by omega) (fun a' b' h1 h2 h3 h4 => by
      have p := hP a' b' h1 h2 h3 h4
      refine ⟨fun q => by rw [mg_k _ _ _ (by omega)]; exact p.1 q, fun q => ?_⟩
      subst q
      by_cases z : b' = b
      · subst z
        rw [mg_s, ifp ⟨hkb, by omega⟩]
      · rw [mg_j _ _ _ z, p.2 rfl]
        by_cases y : k + 1 ≤ b' ∧ b' < b
        · rw [ifp y, ifp ⟨y.1, by omega⟩]
        · rw [ifn y, ifn (fun w => y ⟨w.1, by omega⟩)])
    exact ⟨M2, k1, fr.trans k2, fun a' j hne => by rw [k3 a' j hne, mg_k _ _ _ (by omega)], k4⟩
theorem l_F_el19 (n : Nat) (hn : 3000 ≤ n) {A : Nat → Nat → Int} {m : Nat} (hm : m < 7) (hM : MMx A (m + 1)) (hN : NRM A (m + 1)) (k5 : Int → Int → Int → Mm → Rr) {k : Nat} (hk : k < m) : ∀ (r a g : Nat) (M : Mm), a + r = m + 1 → r < g → k + 1 ≤ a → (∀ a' b', k ≤ a' → a' < m + 1 → k ≤ b' → b' < m + 2 → M (200 + a') b' = if k + 1 ≤ a' ∧ a' < a ∧ k + 1 ≤ b' then Bm A (k + 1) a' b' else Bm A k a' b') → ∃ M', lp_F_eliminate_19 n k5 g ((m + 1 : Nat) : Int) (Dk A k) k a M = k5 ((m + 1 : Nat) : Int) (Dk A (k + 1)) ((k + 1 : Nat) : Int) M' ∧ Fr cdC LNL M M' ∧ ELk M' A m (k + 1) := by
  intro r
  induction r with
  | zero =>
    intro a g M ha hg hka hP
    obtain ⟨g', rfl, _⟩ := f_pos hg
    have e : a = m + 1 := by omega
    subst e
    show ∃ M', f_F_eliminate_19 n k5 (lp_F_eliminate_19 n k5 g') _ _ _ _ M = _ ∧ _
    have v1 := hP k k (Nat.le_refl k) (by omega) (Nat.le_refl k) (by omega)
    rw [ifn (fun z => by omega), Bm_kk] at v1
    unfold f_F_eliminate_19
    rw [ifp (Int.le_refl _), ckp (by omega), ckp (by omega), Int.toNat_natCast, v1, w_succ (by omega)]
    refine ⟨M, rfl, Fr.rf, fun a' b' h1 h2 h3 h4 => ?_⟩
    rw [hP a' b' (by omega) h2 (by omega) h4, ifp ⟨h1, by omega, h3⟩]
  | succ r ih =>
    intro a g M ha hg hka hP
    obtain ⟨g', rfl, hg'⟩ := f_pos hg
    show ∃ M', f_F_eliminate_19 n k5 (lp_F_eliminate_19 n k5 g') _ _ _ _ M = _ ∧ _
    obtain ⟨M1, z1, z2, z3, z4⟩ := l_F_el31 n hn hm hM hN k5 (lp_F_eliminate_19 n k5 g') (k := k) (a := a) hk ⟨hka, by omega⟩ (m + 1 - k) (k + 1) n M (by omega) (by omega) (Nat.le_refl _) (fun a' b' h1 h2 h3 h4 => by
      have p := hP a' b' h1 h2 h3 h4
      refine ⟨fun q => by rw [p, ifn (fun w => by omega)], fun q => by rw [p, ifn (fun w => by omega), ifn (fun w => by omega)]⟩)
    unfold f_F_eliminate_19
    rw [ifn (by omega), w_succ (by omega), z1]
    obtain ⟨M2, k1, k2, k3⟩ := ih (a + 1) g' M1 (by omega) hg' (by omega) (fun a' b' h1 h2 h3 h4 => by
      by_cases q : a' = a
      · subst q
        rw [z4 b' h3 h4]
        by_cases y : k + 1 ≤ b'
        · rw [ifp y, ifp ⟨hka, by omega, y⟩]
        · rw [ifn y, ifn (fun w => y w.2.2)]
      · rw [z3 a' b' q, hP a' b' h1 h2 h3 h4]
        by_cases y : k + 1 ≤ a' ∧ a' < a ∧ k + 1 ≤ b'
        · rw [ifp y, ifp ⟨y.1, by omega, y.2.2⟩]
        · rw [ifn y, ifn (fun w => y ⟨w.1, by omega, w.2.2⟩)])
    exact ⟨M2, k1, z2.trans k2, k3⟩
theorem e_F_eliminate (n : Nat) (hn : 3000 ≤ n) {A : Nat → Nat → Int} {m : Nat} (hm : m < 7) (hM : MMx A (m + 1)) (hN : NRM A (m + 1)) (hE : ELk M A m 0) : ∃ M', f_F_eliminate n ((m + 1 : Nat) : Int) M = some (0, M') ∧ Fr cdC LNL M M' ∧ ELk M' A m m := by
  have go : ∀ (r k g : Nat) (M : Mm), k + r = m → r < g → ELk M A m k → ∃ M', lp_F_eliminate_5 n g ((m + 1 : Nat) : Int) (Dk A k) k M = some (0, M') ∧ Fr cdC LNL M M' ∧ ELk M' A m m := by
    intro r
    induction r with
    | zero =>
      intro k g M hk hg hE
      obtain ⟨g', rfl, _⟩ := f_pos hg
      have e : k = m := by omega
      subst e
      show ∃ M', f_F_eliminate_5 n (lp_F_eliminate_5 n g') _ _ _ M = _ ∧ _
      unfold f_F_eliminate_5
      rw [w32_s (by omega) (by omega), ifp (by omega)]
      exact ⟨M, rfl, Fr.rf, hE⟩
    | succ r ih =>
      intro k g M hk hg hE
      obtain ⟨g', rfl, hg'⟩ := f_pos hg
      show ∃ M', f_F_eliminate_5 n (lp_F_eliminate_5 n g') _ _ _ M = _ ∧ _
      obtain ⟨M1, z1, z2, z3⟩ := l_F_el19 n hn hm hM hN (lp_F_eliminate_5 n g') (k := k) (by omega) (m - k) (k + 1) n M (by omega) (by omega) (Nat.le_refl _) (fun a' b' h1 h2 h3 h4 => by
        rw [ifn (fun w => by omega)]
        exact hE a' b' h1 h2 h3 h4)
      unfold f_F_eliminate_5
      rw [w32_s (by omega) (by omega), ifn (by omega), w_succ (by omega), z1]
      obtain ⟨M2, k1, k2, k3⟩ := ih (k + 1) g' M1 (by omega) hg' z3
      exact ⟨M2, k1, z2.trans k2, k3⟩
  exact go m 0 n M (by omega) (by omega) hE
end
