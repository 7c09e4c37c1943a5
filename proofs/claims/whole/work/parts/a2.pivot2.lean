/-! pivot(..): the class. -/
section
variable {σ : Mm} {M N : Mm}
/-- as whom a holder speaks -/
def voN (σ : Mm) (rb : Nat → Int) (h : Nat) : Nat := if bk σ rb h < 0 then h else (bk σ rb h).toNat
theorem voN_in {rb : Nat → Int} (hrb : ∀ x, rb x = -5 ∨ (0 ≤ rb x ∧ rb x < σ 0 1)) {h : Nat} (hh : (h : Int) < σ 0 1) : (voN σ rb h : Int) < σ 0 1 := by
  have hd : hdN (σ 1) (σ 2) h ≤ h := by
    unfold hdN
    split
    · exact fsn_le _ h
    · exact Nat.le_refl h
  unfold voN bk
  by_cases c : isF (σ 1) h = true
  · rw [ifp c]
    rcases hrb h with q | q
    · rw [ifp (by omega)]; exact hh
    · rw [ifn (by omega)]; omega
  · rw [ifn c, ifn (by omega)]; omega
theorem e_U_voice (n : Nat) {rb : Nat → Int} (hrb : ∀ x, rb x = -5 ∨ (0 ≤ rb x ∧ rb x < σ 0 1)) (h45 : ∀ h : Nat, (h : Int) < σ 0 1 → M 45 h = bk σ rb h) {h : Nat} (hh : (h : Int) < σ 0 1) (h16 : σ 0 1 ≤ 16) : f_U_voice n h M = some ((voN σ rb h : Int), M) := by
  unfold f_U_voice voN
  rw [ckp (by omega), Int.toNat_natCast, h45 h hh]
  by_cases c : bk σ rb h < 0
  · rw [ifp c, ifp c]
  · rw [ifn c, ifn c, ckp (by omega), show (((bk σ rb h).toNat : Nat) : Int) = bk σ rb h by omega]
theorem e_m_headOf (n : Nat) (hn : 3000 ≤ n) (hI : Inv σ) (hA : AgR N σ) {rb : Nat → Int} (hR : RBy N σ rb) {h : Nat} (hh : (h : Int) < σ 0 1) : f_m_headOf n h N = some ((voN σ rb h : Int), N) := by
  have bh := hI.1.2.1
  have aK : N 1 = σ 1 := hA.row (k := 1) (fun _ => rfl)
  have h29 := hR h (by omega)
  unfold f_m_headOf voN bk
  rw [ckp (by omega), Int.toNat_natCast, aK]
  by_cases c : σ 1 h = 1
  · have hF : isF (σ 1) h = true := isF_of c
    rw [ifn (fun z => z c), ckp (by omega), h29, ifp hF]
    by_cases c2 : rb h < 0
    · rw [ifp c2, ifn (show ¬ (0 : Int) ≤ -1 by decide), ifp c2]
    · rw [ifn c2, ifp (show 0 ≤ rb h by omega), ckp (by omega), ifn c2, show (((rb h).toNat : Nat) : Int) = rb h by omega]
  · have hF : isF (σ 1) h = false := decide_eq_false c
    rw [ifp c, ckp (by omega), hF, ifn (show ¬ false = true by decide), ifn (show ¬ ((hdN (σ 1) (σ 2) h : Nat) : Int) < 0 by omega), Int.toNat_natCast]
    by_cases c3 : σ 1 h = 3
    · rw [ifn (fun z => z c3), e_m_leastKin n hn hI hA hh c3, bnd_mk]
    · have : hdN (σ 1) (σ 2) h = h := by unfold hdN; rw [ifn c3]
      rw [ifp c3, this]
def bsS (σ : Mm) (vo : Nat → Nat) (V : Nat → Int) (k b : Nat) : Int := sm k (fun h => if vo h = b then V h else 0)
theorem bsS_in {vo : Nat → Nat} {V : Nat → Int} (hV : ∀ h, 0 ≤ V h ∧ V h ≤ 999) {k : Nat} (hk : k ≤ 16) (b : Nat) : 0 ≤ bsS σ vo V k b ∧ bsS σ vo V k b ≤ 15984 := by
  have hg : ∀ h, h < k → 0 ≤ (if vo h = b then V h else 0) ∧ (if vo h = b then V h else 0) ≤ 999 := fun h _ => by
    have := hV h
    split
    · exact this
    · exact ⟨by decide, by decide⟩
  have h1 := sm_nn (fun h hh => (hg h hh).1)
  have h2 := sm_ub (fun h hh => (hg h hh).2)
  unfold bsS
  omega
theorem e_S_sumBlocks (n : Nat) (hn : 3000 ≤ n) (hI : Inv σ) (hC : RelC M σ) {rb : Nat → Int} (hrb : ∀ x, rb x = -5 ∨ (0 ≤ rb x ∧ rb x < σ 0 1)) (h45 : ∀ h : Nat, (h : Int) < σ 0 1 → M 45 h = bk σ rb h) {V : Nat → Int} (hV : ∀ h, 0 ≤ V h ∧ V h ≤ 999) {f : Nat} (hf : f < 16) (h130 : ∀ h : Nat, (h : Int) < σ 0 1 → M (130 + f) h = V h) : ∃ v M', f_S_sumBlocks n f M = some (v, M') ∧ Fr cdC [52] M M' ∧ inR v ∧ (∀ b, bI v b = true ↔ ∃ i : Nat, (i : Int) < σ 0 1 ∧ voN σ rb i = b ∧ 0 < V i) ∧ ∀ b, b < 16 → M' 52 b = bsS σ (voN σ rb) V (σ 0 1).toNat b := by
  have bh := hI.1.2.1
  have go : ∀ (k h g : Nat) (x : Int) (M : Mm), h + k = (σ 0 1).toNat → k < g → RelC M σ → (∀ h : Nat, (h : Int) < σ 0 1 → M 45 h = bk σ rb h) → (∀ h : Nat, (h : Int) < σ 0 1 → M (130 + f) h = V h) → inR x → (∀ b, bI x b = true ↔ ∃ i : Nat, i < h ∧ voN σ rb i = b ∧ 0 < V i) → (∀ b, b < 16 → M 52 b = bsS σ (voN σ rb) V h b) → ∃ v M', lp_S_sumBlocks_12 n g f x h M = some (v, M') ∧ Fr cdC [52] M M' ∧ inR v ∧ (∀ b, bI v b = true ↔ ∃ i : Nat, (i : Int) < σ 0 1 ∧ voN σ rb i = b ∧ 0 < V i) ∧ ∀ b, b < 16 → M' 52 b = bsS σ (voN σ rb) V (σ 0 1).toNat b := by
    intro k
    induction k with
    | zero =>
      intro h g x M hh hg hC h45 h130 hx hb h52
      obtain ⟨g', rfl, _⟩ := f_pos hg
      have e : h = (σ 0 1).toNat := by omega
      subst e
      show ∃ v M', f_S_sumBlocks_12 n (lp_S_sumBlocks_12 n g') f x _ M = _ ∧ _
      unfold f_S_sumBlocks_12
      rw [ifp (by rw [hC.1.2.1]; omega)]
      exact ⟨x, M, rfl, Fr.rf, hx, fun b => (hb b).trans ⟨fun ⟨i, i1, i2⟩ => ⟨i, by omega, i2⟩, fun ⟨i, i1, i2⟩ => ⟨i, by omega, i2⟩⟩, h52⟩
    | succ k ih =>
      intro h g x M hh hg hC h45 h130 hx hb h52
      obtain ⟨g', rfl, hg'⟩ := f_pos hg
      show ∃ v M', f_S_sumBlocks_12 n (lp_S_sumBlocks_12 n g') f x h M = _ ∧ _
      have hv := voN_in hrb (h := h) (by omega)
      have hVh := hV h
      have hbs := bsS_in (σ := σ) (vo := voN σ rb) hV (k := h) (by omega) (voN σ rb h)
      have e1 : bsS σ (voN σ rb) V (h + 1) (voN σ rb h) = bsS σ (voN σ rb) V h (voN σ rb h) + V h := by
        show bsS σ (voN σ rb) V h (voN σ rb h) + (if voN σ rb h = voN σ rb h then V h else 0) = _
        rw [ifp rfl]
      have fr : Fr cdC [52] M (mset M 52 (voN σ rb h) (bsS σ (voN σ rb) V (h + 1) (voN σ rb h))) := Fr.rf.set rfl
      have frp : ∀ (a j : Nat), mset M 52 (voN σ rb h) (bsS σ (voN σ rb) V (h + 1) (voN σ rb h)) (130 + a) j = M (130 + a) j := fun a j => by rw [mg_k _ _ _ (by omega)]
      have tail : ∀ x' : Int, inR x' → (∀ b, bI x' b = true ↔ ∃ i : Nat, i < h + 1 ∧ voN σ rb i = b ∧ 0 < V i) → ∃ v M', lp_S_sumBlocks_12 n g' f x' ((h + 1 : Nat) : Int) (mset M 52 (voN σ rb h) (bsS σ (voN σ rb) V (h + 1) (voN σ rb h))) = some (v, M') ∧ Fr cdC [52] M M' ∧ inR v ∧ (∀ b, bI v b = true ↔ ∃ i : Nat, (i : Int) < σ 0 1 ∧ voN σ rb i = b ∧ 0 < V i) ∧ ∀ b, b < 16 → M' 52 b = bsS σ (voN σ rb) V (σ 0 1).toNat b := fun x' hx' hb' => by
        obtain ⟨v, M2, k1, k2, k3⟩ := ih (h + 1) g' x' _ (by omega) hg' (hC.fr fr (by decide)) (fun y hy => by rw [fr 45 y rfl]; exact h45 y hy) (fun y hy => by rw [frp]; exact h130 y hy) hx' hb' (fun b hb => by
          by_cases z : b = voN σ rb h
          · rw [z, mg_s]
          · rw [mg_j _ _ _ z, h52 b hb]
            show _ = bsS σ (voN σ rb) V h b + (if voN σ rb h = b then V h else 0)
            rw [ifn (fun y => z y.symm), Int.add_zero])
        exact ⟨v, M2, k1, fr.trans k2, k3⟩
      have ew : w32 (bsS σ (voN σ rb) V h (voN σ rb h) + V h) = bsS σ (voN σ rb) V (h + 1) (voN σ rb h) := by rw [w32_s (by omega) (by omega), e1]
      unfold f_S_sumBlocks_12 f_S_sumBlocks_77
      rw [ifn (by rw [hC.1.2.1]; omega), e_U_voice n hrb h45 (h := h) (by omega) (by omega), bnd_mk]
      simp only [ckp (show (0 : Int) ≤ (voN σ rb h : Int) ∧ (voN σ rb h : Int) < 16 by omega), ckp (show (0 : Int) ≤ (f : Int) ∧ (f : Int) < 16 by omega), ckp (show (0 : Int) ≤ (h : Int) ∧ (h : Int) < 16 by omega), Int.toNat_natCast, h52 (voN σ rb h) (show voN σ rb h < 16 by omega), h130 h (show (h : Int) < σ 0 1 by omega), ew, frp, h130 h (show (h : Int) < σ 0 1 by omega), w_succ (show h < 2000000000 by omega)]
      by_cases c : V h ≤ 0
      · rw [ifp c, ior_0 hx]
        refine tail x hx fun b => (hb b).trans ⟨fun ⟨i, i1, i2⟩ => ⟨i, by omega, i2⟩, fun ⟨i, i1, i2, i3⟩ => ⟨i, ?_, i2, i3⟩⟩
        by_cases z : i = h
        · rw [z] at i3; omega
        · omega
      · rw [ifn c]
        refine tail _ (ir_or _ _) fun b => ?_
        rw [bI_or, Bool.or_eq_true, hb b, bI_bit (by omega), decide_eq_true_eq]
        constructor
        · rintro (⟨i, i1, i2⟩ | q)
          · exact ⟨i, by omega, i2⟩
          · exact ⟨h, by omega, q.symm, by omega⟩
        · rintro ⟨i, i1, i2, i3⟩
          by_cases z : i = h
          · rw [z] at i2; exact Or.inr i2.symm
          · exact Or.inl ⟨i, by omega, i2, i3⟩
  have fr : Fr cdC [52] M (mfil M 52 16 0) := Fr.rf.rowset fun _ => rfl
  obtain ⟨v, M2, k1, k2, k3⟩ := go (σ 0 1).toNat 0 n 0 (mfil M 52 16 0) (by omega) (by omega) (hC.fr fr (by decide)) (fun y hy => by rw [fr 45 y rfl]; exact h45 y hy) (fun y hy => by rw [mfil_k _ _ _ (by omega)]; exact h130 y hy) ir_0 (fun b => by rw [bI_0]; exact ⟨fun q => (by cases q), fun ⟨i, i1, _⟩ => absurd i1 (Nat.not_lt_zero i)⟩) (fun b hb => by rw [mfil_in _ _ _ _ hb]; rfl)
  exact ⟨v, M2, k1, fr.trans k2, k3⟩
theorem rsS_ub {a : Nat → Int} {B : Int} : ∀ {r k : Nat}, (∀ i, k ≤ i → i < k + r → a i ≤ B) → rsS a r k ≤ r * B
  | 0, _, _ => by show (0 : Int) ≤ 0 * B; omega
  | r + 1, k, h => by
    have h1 := rsS_ub (a := a) (B := B) (r := r) (k := k + 1) fun i h1 h2 => h i (by omega) (by omega)
    have h2 := h k (Nat.le_refl k) (by omega)
    have e : ((r + 1 : Nat) : Int) * B = (r : Int) * B + B := by rw [show ((r + 1 : Nat) : Int) = (r : Int) + 1 by omega, Int.add_mul, Int.one_mul]
    show rsS a r (k + 1) + a k ≤ _
    omega
/-- the others' votes, and of the rest together -/
def OTH (M : Mm) (m : Nat) : Prop := M 4 11 = (m : Int) ∧ ∀ k, k ≤ m → M 55 k = rsS (M 54) (m - k) k
theorem l_S_lo70 (n : Nat) {m : Nat} (hm : m ≤ 16) : ∀ (k g : Nat) (M : Mm), k ≤ m → k < g → (∀ i, i < m → 0 ≤ M 54 i ∧ M 54 i ≤ 15984) → M 4 11 = (m : Int) → (∀ i, k ≤ i → i ≤ m → M 55 i = rsS (M 54) (m - i) i) → ∃ M', lp_S_listOthers_70 n g ((k : Int) - 1) M = some (0, M') ∧ Fr cdC [55] M M' ∧ OTH M' m := by
  intro k
  induction k with
  | zero =>
    intro g M hk hg h54 h4 h55
    obtain ⟨g', rfl, _⟩ := f_pos hg
    show ∃ M', f_S_listOthers_70 n (lp_S_listOthers_70 n g') _ M = _ ∧ _
    unfold f_S_listOthers_70
    rw [ifp (by omega)]
    exact ⟨M, rfl, Fr.rf, h4, fun i hi => h55 i (Nat.zero_le _) hi⟩
  | succ k ih =>
    intro g M hk hg h54 h4 h55
    obtain ⟨g', rfl, hg'⟩ := f_pos hg
    show ∃ M', f_S_listOthers_70 n (lp_S_listOthers_70 n g') _ M = _ ∧ _
    have h1 := h55 (k + 1) (Nat.le_refl _) hk
    have hk54 := h54 k (by omega)
    have r0 := rsS_nn (a := M 54) (r := m - (k + 1)) (k := k + 1) fun i hi => (h54 i (by omega)).1
    have r1 := rsS_ub (a := M 54) (B := 15984) (r := m - (k + 1)) (k := k + 1) fun i _ hi => (h54 i (by omega)).2
    have r2 : ((m - (k + 1) : Nat) : Int) * 15984 ≤ 16 * 15984 := Int.mul_le_mul_of_nonneg_right (by omega) (by decide)
    unfold f_S_listOthers_70
    rw [ifn (by omega), show ((k + 1 : Nat) : Int) - 1 = (k : Int) by omega, w_succ (by omega), ckp (by omega), ckp (by omega), ckp (by omega), Int.toNat_natCast, Int.toNat_natCast, h1, w32_s (x := (k : Int) + -1) (by omega) (by omega), w32_s (by omega) (by omega)]
    have e2 : rsS (M 54) (m - (k + 1)) (k + 1) + M 54 k = rsS (M 54) (m - k) k := by
      rw [show m - k = (m - (k + 1)) + 1 by omega]; rfl
    rw [e2]
    have fr : Fr cdC [55] M (mset M 55 k (rsS (M 54) (m - k) k)) := Fr.rf.set rfl
    have e54 : mset M 55 k (rsS (M 54) (m - k) k) 54 = M 54 := mg_k _ _ _ (by decide)
    obtain ⟨M2, k1, k2, k3⟩ := ih g' (mset M 55 k (rsS (M 54) (m - k) k)) (by omega) hg' (by rw [e54]; exact h54) (by rw [fr 4 11 rfl]; exact h4) (fun i h1 h2 => by
      rw [e54]
      by_cases z : i = k
      · rw [z, mg_s]
      · rw [mg_j _ _ _ z]; exact h55 i (by omega) h2)
    exact ⟨M2, k1, fr.trans k2, k3⟩
theorem e_S_listOthers (n : Nat) (hn : 3000 ≤ n) {s : Nat → Int} (hs : ∀ b, b < 16 → 0 ≤ s b ∧ s b ≤ 15984) (h52 : ∀ b, b < 16 → M 52 b = s b) (x : Int) : ∃ M', f_S_listOthers n x M = some (0, M') ∧ Fr cdC [1411, 54, 55] M M' ∧ OTH M' (cn 16 (bI x)) ∧ (∀ b, b < 16 → bI x b = true → M' 54 (cn b (bI x)) = s b) ∧ ∀ i, i < cn 16 (bI x) → 0 ≤ M' 54 i ∧ M' 54 i ≤ 15984 := by
  have go : ∀ (k b g : Nat) (M : Mm), b + k = 16 → k < g → (∀ b, b < 16 → M 52 b = s b) → M 4 11 = (cn b (bI x) : Int) → (∀ b', b' < b → bI x b' = true → M 54 (cn b' (bI x)) = s b') → ∃ M', lp_S_listOthers_7 n g x b M = some (0, M') ∧ Fr cdC [1411, 54, 55] M M' ∧ OTH M' (cn 16 (bI x)) ∧ (∀ b, b < 16 → bI x b = true → M' 54 (cn b (bI x)) = s b) ∧ ∀ i, i < cn 16 (bI x) → 0 ≤ M' 54 i ∧ M' 54 i ≤ 15984 := by
    intro k
    induction k with
    | zero =>
      intro b g M hb hg h52 h4 h54
      obtain ⟨g', rfl, _⟩ := f_pos hg
      have e : b = 16 := by omega
      subst e
      show ∃ M', f_S_listOthers_7 n (lp_S_listOthers_7 n g') x _ M = _ ∧ _
      have hle := cn_le (bI x) 16
      have hall : ∀ i, i < cn 16 (bI x) → 0 ≤ M 54 i ∧ M 54 i ≤ 15984 := fun i hi => by
        obtain ⟨b, b1, b2, b3⟩ := cn_nth hi
        have := h54 b b1 b2
        rw [b3] at this
        rw [this]; exact hs b b1
      have fr : Fr cdC [1411, 54, 55] M (mset M 55 (cn 16 (bI x)) 0) := Fr.rf.set rfl
      have e54 : mset M 55 (cn 16 (bI x)) 0 54 = M 54 := mg_k _ _ _ (by decide)
      obtain ⟨M2, k1, k2, k3⟩ := l_S_lo70 n hle (cn 16 (bI x)) n (mset M 55 (cn 16 (bI x)) 0) (Nat.le_refl _) (by omega) (by rw [e54]; exact hall) (by rw [mg_k _ _ _ (by decide)]; exact h4) (fun i h1 h2 => by
        have : i = cn 16 (bI x) := by omega
        rw [this, mg_s, Nat.sub_self]; rfl)
      have k54 : M2 54 = M 54 := (k2.row (k := 54) (fun _ => rfl)).trans e54
      unfold f_S_listOthers_7
      rw [ifp (by omega), h4, ckp (by omega), Int.toNat_natCast, mg_k _ _ _ (show (4 : Nat) ≠ 55 by decide), h4, w32_s (by omega) (by omega), k1]
      exact ⟨M2, rfl, fr.trans (k2.mono (by decide)), k3, fun b hb hx => by rw [k54]; exact h54 b hb hx, by rw [k54]; exact hall⟩
    | succ k ih =>
      intro b g M hb hg h52 h4 h54
      obtain ⟨g', rfl, hg'⟩ := f_pos hg
      show ∃ M', f_S_listOthers_7 n (lp_S_listOthers_7 n g') x b M = _ ∧ _
      have hle := cn_le (bI x) b
      unfold f_S_listOthers_7 f_S_listOthers_47
      rw [ifn (show ¬ (16 : Int) ≤ (b : Int) by omega), bit_I (by omega), w_succ (by omega), Int.toNat_natCast]
      by_cases c : bI x b = true
      · rw [ifp c, ifn (show ¬ (1 : Int) ≠ 1 by decide), ckp (by omega), h4, ckp (by omega), Int.toNat_natCast, mg_k _ _ _ (show (4 : Nat) ≠ 54 by decide), h4, w_succ (by omega), ← cn_t c, h52 b (by omega)]
        have fr : Fr cdC [1411, 54, 55] M (mset (mset M 54 (cn b (bI x)) (s b)) 4 11 (cn (b + 1) (bI x))) := (Fr.rf.set rfl).set rfl
        obtain ⟨M2, k1, k2, k3⟩ := ih (b + 1) g' _ (by omega) hg' (fun y hy => by rw [fr 52 y rfl]; exact h52 y hy) (mg_s _ _ _ _) (fun b' h1 h2 => by
          rw [mg_k _ _ _ (show (54 : Nat) ≠ 4 by decide)]
          by_cases z : b' = b
          · rw [z, mg_s]
          · rw [mg_j _ _ _ (fun q => z (cn_inj h2 c q))]; exact h54 b' (by omega) h2)
        exact ⟨M2, k1, fr.trans k2, k3⟩
      · rw [ifn c, ifp (show (0 : Int) ≠ 1 by decide)]
        have ec : cn (b + 1) (bI x) = cn b (bI x) := cn_f (by simpa using c)
        exact ih (b + 1) g' M (by omega) hg' h52 (by rw [ec]; exact h4) (fun b' h1 h2 => by
          by_cases z : b' = b
          · rw [z] at h2; exact absurd h2 c
          · exact h54 b' (by omega) h2)
  have fr : Fr cdC [1411, 54, 55] M (mset M 4 11 0) := Fr.rf.set rfl
  obtain ⟨M2, k1, k2, k3⟩ := go 16 0 n (mset M 4 11 0) rfl (by omega) (fun y hy => by rw [fr 52 y rfl]; exact h52 y hy) (mg_s _ _ _ _) (fun b' h => absurd h (Nat.not_lt_zero b'))
  exact ⟨M2, k1, fr.trans k2, k3⟩
theorem e_S_ways (n : Nat) {m : Nat} (hm : m ≤ 16) (hO : OTH M m) (h54 : ∀ i, i < m → 0 ≤ M 54 i ∧ M 54 i ≤ 15984) : ∀ (r d k w : Nat) (lo hi : Int), k + r = m → r < d → (-50000000 + (r : Int) * 16000 ≤ lo ∧ lo ≤ 50000000) → (-50000000 + (r : Int) * 16000 ≤ hi ∧ hi ≤ 50000000) → g_ways n d w k m lo hi M = some ((wyS (M 54) r k lo hi : Int), M) := by
  intro r
  induction r with
  | zero =>
    intro d k w lo hi hk hd hlo hhi
    obtain ⟨d', rfl, _⟩ := f_pos hd
    have ek : k = m := by omega
    subst ek
    show f_S_ways n (g_ways n d') _ _ lo hi M = _
    have h55 := hO.2 k (Nat.le_refl k)
    rw [Nat.sub_self] at h55
    have h55' : M 55 k = 0 := h55
    unfold f_S_ways
    rw [ifn (show ¬ (k : Int) < 0 by omega), ifn (show ¬ (k : Int) < (k : Int) by omega), ifn (show ¬ (16 : Int) < (k : Int) by omega)]
    have e : wyS (M 54) 0 k lo hi = if lo ≤ 0 ∧ 0 ≤ hi then 1 else 0 := rfl
    rw [e]
    by_cases c : hi < 0
    · rw [ifp c, ifn (by omega)]; rfl
    · rw [ifn c, ckp (by omega), Int.toNat_natCast, h55']
      by_cases c1 : lo ≤ 0
      · rw [ifp c1, ifn (by omega), ckp (by omega), ifn (by omega), ifp ⟨c1, by omega⟩, w32_s (by omega) (by omega), show (k : Int) - (k : Int) = ((0 : Nat) : Int) by omega, p2_k 0 (by decide)]; rfl
      · rw [ifn c1, ifn (fun z => c1 z.1)]; rfl
  | succ r ih =>
    intro d k w lo hi hk hd hlo hhi
    obtain ⟨d', rfl, hd'⟩ := f_pos hd
    show f_S_ways n (g_ways n d') _ _ lo hi M = _
    have h55 := hO.2 k (by omega)
    have er : m - k = r + 1 := by omega
    rw [er] at h55
    have hk54 := h54 k (by omega)
    have nn : ∀ i, i < k + (r + 1) → 0 ≤ M 54 i := fun i hi => (h54 i (by omega)).1
    have p1 := wyS_le (M 54) r (k + 1) lo hi
    have p2 := wyS_le (M 54) r (k + 1) (lo - M 54 k) (hi - M 54 k)
    have p3 : (2 : Nat) ^ r ≤ 2 ^ 16 := Nat.pow_le_pow_right (by decide) (by omega)
    have hrec : f_S_ways_49 n (g_ways n d') k m lo hi M = some ((wyS (M 54) (r + 1) k lo hi : Int), M) := by
      unfold f_S_ways_49
      rw [ifp (show (k : Int) ≠ (m : Int) by omega), w_succ (by omega), ih d' (k + 1) 0 lo hi (by omega) (by omega) (by omega) (by omega), bnd_mk, ckp (by omega), ckp (by omega), Int.toNat_natCast, w32_s (x := lo - M 54 k) (by omega) (by omega), w32_s (x := hi - M 54 k) (by omega) (by omega), ih d' (k + 1) 0 (lo - M 54 k) (hi - M 54 k) (by omega) (by omega) (by omega) (by omega), bnd_mk, w32_s (by omega) (by omega)]
      have e : wyS (M 54) (r + 1) k lo hi = wyS (M 54) r (k + 1) lo hi + wyS (M 54) r (k + 1) (lo - M 54 k) (hi - M 54 k) := rfl
      rw [e, Int.natCast_add]
    unfold f_S_ways
    rw [ifn (show ¬ (k : Int) < 0 by omega), ifn (show ¬ (m : Int) < (k : Int) by omega), ifn (show ¬ (16 : Int) < (m : Int) by omega)]
    by_cases c : hi < 0
    · rw [ifp c, wyS_hi nn c]; rfl
    · rw [ifn c, ckp (by omega), Int.toNat_natCast, h55]
      by_cases c1 : lo ≤ rsS (M 54) (r + 1) k
      · rw [ifp c1]
        by_cases c2 : 0 < lo
        · rw [ifp c2]; exact hrec
        · rw [ifn c2, ckp (by omega)]
          by_cases c3 : hi < rsS (M 54) (r + 1) k
          · rw [ifp c3]; exact hrec
          · have h5 : (((2 : Nat) ^ (r + 1) : Nat) : Int) = (2 : Int) ^ (r + 1) := by simp
            rw [ifn c3, w32_s (by omega) (by omega), show (m : Int) - (k : Int) = ((r + 1 : Nat) : Int) by omega, p2_k (r + 1) (by omega), ← h5, wyS_all nn (by omega) (by omega)]
      · rw [ifn c1, wyS_lo nn (by omega)]; rfl
end
