/-! breaks(..): shares of firms in firms; what is left; the class. -/
section
variable {σ : Mm} {M N : Mm} {m : Nat}
def cutP (σ : Mm) : Nat → Bool := fun s => decide (0 < σ 5 s) && (decide (0 ≤ ow σ s (σ 0 0)) && isF (σ 1) (ow σ s (σ 0 0)).toNat)
def cutN (σ : Mm) : Nat := pkc 12 (σ 0 3).toNat (cutP σ)
def cutK (σ : Mm) (j : Nat) : Nat := pkN (σ 0 3).toNat (cutP σ) j
def cutO (σ : Mm) (j : Nat) : Nat := (ow σ (cutK σ j) (σ 0 0)).toNat
def cutF (σ : Mm) (j : Nat) : Nat := (σ 3 (cutK σ j)).toNat
theorem cutN_le (σ : Mm) : cutN σ ≤ 12 := (pkc_le 12 _ _).1
theorem cut_in (hI : Inv σ) {j : Nat} (hj : j < cutN σ) : (cutK σ j < 40 ∧ (cutK σ j : Int) < σ 0 3) ∧ (ow σ (cutK σ j) (σ 0 0) = (cutO σ j : Int) ∧ (cutO σ j : Int) < σ 0 1 ∧ isF (σ 1) (cutO σ j) = true) ∧ (σ 3 (cutK σ j) = (cutF σ j : Int) ∧ (cutF σ j : Int) < σ 0 1 ∧ isF (σ 1) (cutF σ j) = true) := by
  have b1 := hI.2.1.1
  have h := pkN_in (sh := (σ 0 3).toNat) (P := cutP σ) (k := j) (by have := (pkc_le 12 (σ 0 3).toNat (cutP σ)).2; unfold cutN at hj; omega)
  have e : cutK σ j = pkN (σ 0 3).toNat (cutP σ) j := rfl
  rw [← e] at h
  have p4 := hI.2.1.2.2.2.1 (cutK σ j) (by omega)
  have hp := h.2.1
  unfold cutP at hp
  simp only [Bool.and_eq_true, decide_eq_true_eq] at hp
  have q := ow_in hI (s := cutK σ j) (by omega) (σ 0 0)
  have eo : cutO σ j = (ow σ (cutK σ j) (σ 0 0)).toNat := rfl
  have ef : cutF σ j = (σ 3 (cutK σ j)).toNat := rfl
  refine ⟨⟨by omega, by omega⟩, ⟨by omega, by omega, hp.2.2⟩, ⟨by omega, by omega, ?_⟩⟩
  rw [ef]
  exact isF_of p4.1.2.2
/-- firm o has a share in firm f that a set leaves, of the first k -/
def egS (σ : Mm) (m k o f : Nat) : Prop := ∃ j, j < k ∧ m.testBit j = false ∧ cutO σ j = o ∧ cutF σ j = f
theorem egS_in (hI : Inv σ) {k o f : Nat} (hk : k ≤ cutN σ) (h : egS σ m k o f) : ((o : Int) < σ 0 1 ∧ isF (σ 1) o = true) ∧ ((f : Int) < σ 0 1 ∧ isF (σ 1) f = true) := by
  obtain ⟨j, j1, j2, j3, j4⟩ := h
  have := cut_in hI (j := j) (by omega)
  rw [j3, j4] at this
  exact ⟨this.2.1.2, this.2.2.2⟩
theorem egS_st {k o f : Nat} : egS σ m (k + 1) o f ↔ egS σ m k o f ∨ (m.testBit k = false ∧ cutO σ k = o ∧ cutF σ k = f) := by
  constructor
  · rintro ⟨j, j1, j2, j3, j4⟩
    by_cases e : j = k
    · subst e; exact Or.inr ⟨j2, j3, j4⟩
    · exact Or.inl ⟨j, by omega, j2, j3, j4⟩
  · rintro (⟨j, j1, j2, j3, j4⟩ | h)
    · exact ⟨j, by omega, j2, j3, j4⟩
    · exact ⟨k, by omega, h⟩
/-- x is on the way to a ring -/
def alvX (σ : Mm) (m x : Nat) : Prop := ∃ S : Nat → Prop, S x ∧ ∀ y, S y → ∃ z, egS σ m (cutN σ) y z ∧ S z
theorem alv_st {x : Nat} (h : alvX σ m x) : ∃ z, egS σ m (cutN σ) x z ∧ alvX σ m z := by
  obtain ⟨S, s1, s2⟩ := h
  obtain ⟨z, z1, z2⟩ := s2 x s1
  exact ⟨z, z1, S, z2, s2⟩
def closB (σ : Mm) (m : Nat) (x : Int) : Prop := ∀ y, bI x y = true → ∃ z, egS σ m (cutN σ) y z ∧ bI x z = true
theorem closB_alv {x : Int} (h : closB σ m x) {y : Nat} (hy : bI x y = true) : alvX σ m y := ⟨fun z => bI x z = true, hy, h⟩
/-- the row of a firm's shares tells the set's edges -/
def HBr (r : Nat → Int) (σ : Mm) (m k : Nat) : Prop := ∀ o, o < 16 → inR (r o) ∧ ∀ f, bI (r o) f = true ↔ egS σ m k o f
theorem an_0 (hI : Inv σ) {r : Nat → Int} (h : HBr r σ m (cutN σ)) {o : Nat} (ho : o < 16) (x : Int) : ian (r o) x = 0 ↔ ¬ ∃ z, egS σ m (cutN σ) o z ∧ bI x z = true := by
  have bh := hI.1.2.1
  rw [bI_eq0 (ir_an _ _)]
  constructor
  · rintro q ⟨z, z1, z2⟩
    have hz := (egS_in hI (Nat.le_refl _) z1).2.1
    have := q z (by omega)
    rw [bI_and, ((h o ho).2 z).mpr z1, z2] at this
    cases this
  · intro q k hk
    rw [bI_and]
    cases h1 : bI (r o) k with
    | false => rfl
    | true =>
      cases h2 : bI x k with
      | false => rfl
      | true => exact absurd ⟨k, ((h o ho).2 k).mp h1, h2⟩ q
/-- without h -/
theorem bI_del {h : Nat} (hh : h < 32) (x : Int) (y : Nat) : bI (ian x (ixo (ish 1 h) (-1))) y = (bI x y && decide (y ≠ h)) := by
  by_cases c : y < 32
  · rw [bI_and, bI_xor, bI_bit hh, bI_m1 c]
    by_cases e : y = h
    · rw [decide_eq_true e, decide_eq_false (fun q => q e)]; rfl
    · rw [decide_eq_false e, decide_eq_true e]; rfl
  · rw [bI_ge (by omega), bI_ge (by omega)]; rfl
theorem bI_anm (x : Int) (y : Nat) : bI (ian x (-1)) y = bI x y := by
  by_cases c : y < 32
  · rw [bI_and, bI_m1 c, Bool.and_true]
  · rw [bI_ge (by omega), bI_ge (by omega)]
/-- one pass: from S0 to x, the firms below h seen -/
def PSb (σ : Mm) (m : Nat) (S0 x : Int) (h : Nat) : Prop :=
  inR x ∧ (∀ y, bI x y = true → bI S0 y = true) ∧ (∀ y, alvX σ m y → bI x y = true) ∧ (closB σ m S0 → ∀ y, bI x y = bI S0 y) ∧
  (((∀ y, bI x y = bI S0 y) ∧ ∀ y, y < h → bI S0 y = true → ∃ z, egS σ m (cutN σ) y z ∧ bI S0 z = true) ∨ cn (σ 0 1).toNat (bI x) < cn (σ 0 1).toNat (bI S0))
theorem PSb_keep {S0 x : Int} {h : Nat} (p : PSb σ m S0 x h) {x' : Int} (hx : inR x') (he : ∀ y, bI x' y = bI x y) (hh : (∀ y, bI x y = bI S0 y) → bI S0 h = true → ∃ z, egS σ m (cutN σ) h z ∧ bI S0 z = true) : PSb σ m S0 x' (h + 1) := by
  refine ⟨hx, fun y hy => p.2.1 y (by rw [← he]; exact hy), fun y hy => by rw [he]; exact p.2.2.1 y hy, fun hc y => by rw [he]; exact p.2.2.2.1 hc y, ?_⟩
  rcases p.2.2.2.2 with q | q
  · refine Or.inl ⟨fun y => by rw [he]; exact q.1 y, fun y hy hb => ?_⟩
    by_cases e : y = h
    · rw [e] at hb ⊢; exact hh q.1 hb
    · exact q.2 y (by omega) hb
  · refine Or.inr ?_
    rw [cn_congr (fun y _ => he y)]
    exact q
theorem PSb_del {S0 x : Int} {h : Nat} (p : PSb σ m S0 x h) (hH : h < (σ 0 1).toNat) (hin : bI x h = true) (hn : ¬ ∃ z, egS σ m (cutN σ) h z ∧ bI x z = true) {x' : Int} (hx : inR x') (he : ∀ y, bI x' y = (bI x y && decide (y ≠ h))) : PSb σ m S0 x' (h + 1) := by
  have hsub : ∀ y, bI x' y = true → bI x y = true := fun y hy => by rw [he, Bool.and_eq_true] at hy; exact hy.1
  have hle : cn (σ 0 1).toNat (bI x') < cn (σ 0 1).toNat (bI x) := cn_less hsub hH (by rw [he, decide_eq_false (fun q => q rfl), Bool.and_false]) hin
  have hle2 := cn_imp (p := bI x) (q := bI S0) p.2.1 (σ 0 1).toNat
  refine ⟨hx, fun y hy => p.2.1 y (hsub y hy), fun y hy => ?_, fun hc => ?_, Or.inr (by omega)⟩
  · rw [he, p.2.2.1 y hy]
    have : y ≠ h := fun e => by
      subst e
      obtain ⟨z, z1, z2⟩ := alv_st hy
      exact hn ⟨z, z1, p.2.2.1 z z2⟩
    rw [decide_eq_true this]; rfl
  · have e := p.2.2.2.1 hc
    obtain ⟨z, z1, z2⟩ := hc h (by rw [← e]; exact hin)
    exact absurd ⟨z, z1, by rw [e]; exact z2⟩ hn
def CUT (M σ : Mm) : Prop := ∀ k, k < cutN σ → M 60 k = (cutK σ k : Int)
theorem e_F_listCuts (n : Nat) (hn : 3000 ≤ n) (hI : Inv σ) (hC : RelC M σ) : ∃ M', f_F_listCuts n M = some ((cutN σ : Int), M') ∧ Fr cdC [25, 26, 60] M M' ∧ (∀ s : Nat, (s : Int) < σ 0 3 → M' 25 s = ow σ s (σ 0 0)) ∧ CUT M' σ := by
  have b1 := hI.2.1.1
  have bh := hI.1.2.1
  have p4 := hI.2.1.2.2.2.1
  have go : ∀ (k s g : Nat) (M : Mm), s + k = (σ 0 3).toNat → k < g → RelC M σ → (∀ s : Nat, (s : Int) < σ 0 3 → M 25 s = ow σ s (σ 0 0)) → cn s (cutP σ) ≤ 12 → (∀ k, k < cn s (cutP σ) → M 60 k = (cutK σ k : Int)) → ∃ M', lp_F_listCuts_18 n g (cn s (cutP σ)) s M = some ((cutN σ : Int), M') ∧ Fr cdC [60] M M' ∧ CUT M' σ := by
    intro k
    induction k with
    | zero =>
      intro s g M hs hg hC h25 h12 h60
      obtain ⟨g', rfl, _⟩ := f_pos hg
      have e : s = (σ 0 3).toNat := by omega
      subst e
      have e2 : cutN σ = cn (σ 0 3).toNat (cutP σ) := by unfold cutN pkc; omega
      show ∃ M', f_F_listCuts_18 n (lp_F_listCuts_18 n g') _ _ M = _ ∧ _
      unfold f_F_listCuts_18
      rw [ifp (by rw [hC.2.1.1]; omega), e2]
      exact ⟨M, rfl, Fr.rf, fun k hk => h60 k (by omega)⟩
    | succ k ih =>
      intro s g M hs hg hC h25 h12 h60
      obtain ⟨g', rfl, hg'⟩ := f_pos hg
      show ∃ M', f_F_listCuts_18 n (lp_F_listCuts_18 n g') _ s M = _ ∧ _
      unfold f_F_listCuts_18 f_F_listCuts_76
      rw [ifn (by rw [hC.2.1.1]; omega)]
      by_cases c8 : 12 ≤ (cn s (cutP σ) : Int)
      · rw [ifp c8]
        have hm := cn_mono (cutP σ) (show s ≤ (σ 0 3).toNat by omega)
        have e2 : cutN σ = cn s (cutP σ) := by unfold cutN pkc; omega
        rw [e2]
        exact ⟨M, rfl, Fr.rf, fun k hk => h60 k (by omega)⟩
      · have q := ow_in hI (s := s) (by omega) (σ 0 0)
        have p5 := p4 s (by omega)
        rw [ifn c8, ckp (by omega), Int.toNat_natCast, hC.2.1.2.2.2.1, h25 s (by omega), w_succ (show s < 2000000000 by omega), e_R_isFirm n M _ (by rw [hC.1.2.1]; omega), bnd_mk, hC.1.2.1, hC.1.2.2.2.2.2.1]
        have skip : cutP σ s = false → ∃ M', lp_F_listCuts_18 n g' (cn s (cutP σ)) ((s + 1 : Nat) : Int) M = some ((cutN σ : Int), M') ∧ Fr cdC [60] M M' ∧ CUT M' σ := fun hP => by
          have := ih (s + 1) g' M (by omega) hg' hC h25 (by rw [cn_f hP]; exact h12) (by rw [cn_f hP]; exact h60)
          rw [cn_f hP] at this
          exact this
        by_cases c0 : σ 5 s ≤ 0
        · rw [ifp c0]
          exact skip (by unfold cutP; rw [decide_eq_false (show ¬ 0 < σ 5 s by omega)]; rfl)
        · rw [ifn c0, ckp (by omega)]
          by_cases c : 0 ≤ ow σ s (σ 0 0) ∧ ow σ s (σ 0 0) < σ 0 1 ∧ σ 1 (ow σ s (σ 0 0)).toNat = 1
          · have hP : cutP σ s = true := by unfold cutP; rw [decide_eq_true (show 0 < σ 5 s by omega), decide_eq_true c.1, isF_of c.2.2]; rfl
            rw [ifp c, i1, ckp (by omega), w_succ (show cn s (cutP σ) < 2000000000 by omega), ← cn_t hP, Int.toNat_natCast]
            have fr : Fr cdC [60] M (mset M 60 (cn s (cutP σ)) (s : Int)) := Fr.rf.set rfl
            obtain ⟨M2, k1, k2, k3⟩ := ih (s + 1) g' (mset M 60 (cn s (cutP σ)) (s : Int)) (by omega) hg' (hC.fr fr (by decide)) (fun y hy => by rw [fr 25 y rfl]; exact h25 y hy) (by rw [cn_t hP]; omega) (fun k hk => by
              rw [cn_t hP] at hk
              by_cases e : k = cn s (cutP σ)
              · rw [e, mg_s]; unfold cutK; rw [pkN_eq (by omega) hP]
              · rw [mg_j _ _ _ e]; exact h60 k (by omega))
            exact ⟨M2, k1, fr.trans k2, k3⟩
          · rw [ifn c, i0]
            refine skip ?_
            unfold cutP
            by_cases c1 : 0 ≤ ow σ s (σ 0 0)
            · have : isF (σ 1) (ow σ s (σ 0 0)).toNat = false := decide_eq_false fun w => c ⟨c1, by omega, w⟩
              rw [this]; simp
            · rw [decide_eq_false c1]; simp
  obtain ⟨M1, m1, m2, m3⟩ := e_R_lookAt n (by omega) hI hC (σ 0 0)
  obtain ⟨M2, k1, k2, k3⟩ := go (σ 0 3).toNat 0 n M1 (by omega) (by omega) (hC.fr m2 (by decide)) (fun s hs => (m3 s hs).1) (Nat.zero_le _) (fun k hk => absurd hk (Nat.not_lt_zero k))
  have k1' : lp_F_listCuts_18 n n 0 0 M1 = _ := k1
  refine ⟨M2, ?_, (m2.mono (by decide)).trans (k2.mono (by decide)), fun s hs => by rw [k2 25 s rfl]; exact (m3 s hs).1, k3⟩
  unfold f_F_listCuts
  rw [hC.1.1, m1, bnd_mk, k1']
theorem l_F_irw98 (n : Nat) (hI : Inv σ) (hC : RelC M σ) (hB : HBr (M 58) σ m (cutN σ)) (k88 : Int → Int → Mm → Rr) (rd : Nat) (hrd : rd < 100) {S0 : Int} (hS0 : ∀ y, bI S0 y = true → (y : Int) < σ 0 1 ∧ isF (σ 1) y = true) : ∀ (k h g : Nat) (x : Int), h + k = (σ 0 1).toNat → k < g → PSb σ m S0 x h → ∃ x', lp_F_isRingWithout_98 n k88 g x rd (cn h (isF (σ 1))) M = k88 x' ((rd + 1 : Nat) : Int) M ∧ PSb σ m S0 x' (σ 0 1).toNat := by
  have bh := hI.1.2.1
  have h7 : (cn (σ 0 1).toNat (isF (σ 1)) : Int) ≤ 7 := by have := hI.1.2.2.2.2.2; omega
  intro k
  induction k with
  | zero =>
    intro h g x hh hg p
    obtain ⟨g', rfl, _⟩ := f_pos hg
    have e : h = (σ 0 1).toNat := by omega
    subst e
    show ∃ x', f_F_isRingWithout_98 n k88 (lp_F_isRingWithout_98 n k88 g') x rd _ M = _ ∧ _
    unfold f_F_isRingWithout_98
    rw [ifp (by rw [hC.1.2.2.1, hI.1.2.2.2.2.2.1]; omega), w_succ (by omega)]
    exact ⟨x, rfl, p⟩
  | succ k ih =>
    intro h g x hh hg p
    by_cases hF : isF (σ 1) h = true
    · obtain ⟨g', rfl, hg'⟩ := f_pos hg
      show ∃ x', f_F_isRingWithout_98 n k88 (lp_F_isRingWithout_98 n k88 g') x rd _ M = _ ∧ _
      have hlt := cn_lt (p := isF (σ 1)) (show h < (σ 0 1).toNat by omega) hF
      have h19 := hC.1.2.2.2.2.2.2.2.1 h (by omega) hF
      unfold f_F_isRingWithout_98 f_F_isRingWithout_145
      rw [ifn (by rw [hC.1.2.2.1, hI.1.2.2.2.2.2.1]; omega), ckp (by omega), Int.toNat_natCast, h19, ckp (by omega), Int.toNat_natCast, w_succ (by omega), ← cn_t hF]
      have ha := an_0 hI hB (o := h) (by omega) x
      by_cases c : ian (M 58 h) x = 0
      · rw [ifn (fun q => q c)]
        by_cases c2 : bI x h = true
        · exact ih (h + 1) g' _ (by omega) hg' (PSb_del p (by omega) c2 (ha.mp c) (ir_an _ _) (bI_del (by omega) x))
        · refine ih (h + 1) g' _ (by omega) hg' (PSb_keep p (ir_an _ _) (fun y => ?_) fun q1 q2 => ?_)
          · rw [bI_del (by omega)]
            by_cases e : y = h
            · rw [e, show bI x h = false by simpa using c2]; rfl
            · rw [decide_eq_true e, Bool.and_true]
          · rw [← q1] at q2; exact absurd q2 c2
      · rw [ifp c]
        refine ih (h + 1) g' _ (by omega) hg' (PSb_keep p (ir_an _ _) (bI_anm x) fun q1 _ => ?_)
        have : ∃ z, egS σ m (cutN σ) h z ∧ bI x z = true := Classical.byContradiction fun w => c (ha.mpr w)
        obtain ⟨z, z1, z2⟩ := this
        exact ⟨z, z1, by rw [← q1]; exact z2⟩
    · have e : cn (h + 1) (isF (σ 1)) = cn h (isF (σ 1)) := cn_f (by simpa using hF)
      have := ih (h + 1) g x (by omega) (by omega) (PSb_keep p p.1 (fun _ => rfl) fun _ q2 => absurd (hS0 h q2).2 hF)
      rw [e] at this
      exact this
theorem PSb_0 {S0 : Int} (hS : inR S0) (ha : ∀ y, alvX σ m y → bI S0 y = true) : PSb σ m S0 S0 0 := ⟨hS, fun _ h => h, ha, fun _ _ => rfl, Or.inl ⟨fun _ => rfl, fun y hy => absurd hy (Nat.not_lt_zero y)⟩⟩
theorem l_F_irw88 (n : Nat) (hn : 3000 ≤ n) (hI : Inv σ) (hC : RelC M σ) (hB : HBr (M 58) σ m (cutN σ)) : ∀ (k rd g : Nat) (x : Int), rd + k = 7 → k < g → inR x → (∀ y, bI x y = true → (y : Int) < σ 0 1 ∧ isF (σ 1) y = true) → (∀ y, alvX σ m y → bI x y = true) → (closB σ m x ∨ cn (σ 0 1).toNat (bI x) + rd ≤ 7) → ∃ w, lp_F_isRingWithout_88 n g x rd M = some (w, M) ∧ (w ≠ 0 ↔ ∃ y, alvX σ m y) := by
  have bh := hI.1.2.1
  intro k
  induction k with
  | zero =>
    intro rd g x hr hg hx hF ha hc
    obtain ⟨g', rfl, _⟩ := f_pos hg
    show ∃ w, f_F_isRingWithout_88 n (lp_F_isRingWithout_88 n g') x rd M = _ ∧ _
    unfold f_F_isRingWithout_88
    rw [ifp (by omega)]
    have hcl : closB σ m x := by
      rcases hc with q | q
      · exact q
      · intro y hy
        have h0 := cn_lt (p := bI x) (show y < (σ 0 1).toNat by have := (hF y hy).1; omega) hy
        omega
    by_cases c : x = 0
    · rw [ifp c]
      refine ⟨0, rfl, fun q => absurd rfl q, fun ⟨y, hy⟩ => ?_⟩
      have := ha y hy
      rw [c, bI_0] at this; cases this
    · rw [ifn c]
      refine ⟨1, rfl, fun _ => ?_, fun _ => by decide⟩
      exact Classical.byContradiction fun q => c ((bI_eq0 hx).mpr fun k _ => by
        cases e : bI x k with
        | false => rfl
        | true => exact absurd ⟨k, closB_alv hcl e⟩ q)
  | succ k ih =>
    intro rd g x hr hg hx hF ha hc
    obtain ⟨g', rfl, hg'⟩ := f_pos hg
    show ∃ w, f_F_isRingWithout_88 n (lp_F_isRingWithout_88 n g') x rd M = _ ∧ _
    obtain ⟨x1, z1, z2⟩ := l_F_irw98 n hI hC hB (lp_F_isRingWithout_88 n g') rd (by omega) hF (σ 0 1).toNat 0 n x (by omega) (by omega) (PSb_0 hx ha)
    have z1' : lp_F_isRingWithout_98 n (lp_F_isRingWithout_88 n g') n x rd 0 M = _ := z1
    unfold f_F_isRingWithout_88
    rw [ifn (by omega), z1']
    refine ih (rd + 1) g' x1 (by omega) hg' z2.1 (fun y hy => hF y (z2.2.1 y hy)) z2.2.2.1 ?_
    have same : (∀ y, bI x1 y = bI x y) → closB σ m x → closB σ m x1 := fun e q y hy => by
      obtain ⟨z, w1, w2⟩ := q y (by rw [← e]; exact hy)
      exact ⟨z, w1, by rw [e]; exact w2⟩
    rcases hc with q | q
    · exact Or.inl (same (z2.2.2.2.1 q) q)
    · rcases z2.2.2.2.2 with p | p
      · exact Or.inl (same p.1 fun y hy => p.2 y (by have := (hF y hy).1; omega) hy)
      · exact Or.inr (by omega)
theorem e_F_isRingWithout (n : Nat) (hn : 3000 ≤ n) (hI : Inv σ) (hC : RelC M σ) (h25 : ∀ s : Nat, (s : Int) < σ 0 3 → M 25 s = ow σ s (σ 0 0)) (hK : CUT M σ) (hm : m < 4096) : ∃ w M', f_F_isRingWithout n m (cutN σ) M = some (w, M') ∧ Fr cdC [58] M M' ∧ (w ≠ 0 ↔ ∃ y, alvX σ m y) := by
  have bh := hI.1.2.1
  have bC := cutN_le σ
  have h7 : (cn (σ 0 1).toNat (isF (σ 1)) : Int) ≤ 7 := by have := hI.1.2.2.2.2.2; omega
  have go : ∀ (k j g : Nat) (x : Int) (M : Mm), j + k = cutN σ → k < g → RelC M σ → (∀ s : Nat, (s : Int) < σ 0 3 → M 25 s = ow σ s (σ 0 0)) → CUT M σ → HBr (M 58) σ m j → inR x → (∀ o, bI x o = true ↔ ∃ f, egS σ m j o f) → ∃ w M', lp_F_isRingWithout_13 n g m (cutN σ) x j M = some (w, M') ∧ Fr cdC [58] M M' ∧ (w ≠ 0 ↔ ∃ y, alvX σ m y) := by
    intro k
    induction k with
    | zero =>
      intro j g x M hj hg hC h25 hK hB hx hb
      obtain ⟨g', rfl, _⟩ := f_pos hg
      have e : j = cutN σ := by omega
      subst e
      show ∃ w M', f_F_isRingWithout_13 n (lp_F_isRingWithout_13 n g') m _ x _ M = _ ∧ _
      have hF : ∀ y, bI x y = true → (y : Int) < σ 0 1 ∧ isF (σ 1) y = true := fun y hy => by
        obtain ⟨f, hf⟩ := (hb y).mp hy
        exact (egS_in hI (Nat.le_refl _) hf).1
      have hle := cn_imp (p := bI x) (q := isF (σ 1)) (fun y hy => (hF y hy).2) (σ 0 1).toNat
      obtain ⟨w, w1, w2⟩ := l_F_irw88 n hn hI hC hB 7 0 n x rfl (by omega) hx hF (fun y hy => by
        obtain ⟨z, z1, _⟩ := alv_st hy
        exact (hb y).mpr ⟨z, z1⟩) (Or.inr (by omega))
      have w1' : lp_F_isRingWithout_88 n n x 0 M = _ := w1
      unfold f_F_isRingWithout_13
      rw [ifp (by omega), w1']
      exact ⟨w, M, rfl, Fr.rf, w2⟩
    | succ k ih =>
      intro j g x M hj hg hC h25 hK hB hx hb
      obtain ⟨g', rfl, hg'⟩ := f_pos hg
      show ∃ w M', f_F_isRingWithout_13 n (lp_F_isRingWithout_13 n g') m _ x _ M = _ ∧ _
      have cj := cut_in hI (j := j) (by omega)
      unfold f_F_isRingWithout_13 f_F_isRingWithout_79
      rw [ifn (by omega), bit_I (by omega), bI_testBit hm (by omega), w_succ (by omega)]
      cases c : m.testBit j with
      | true =>
        rw [ifp rfl, ifp (by decide)]
        have ee : ∀ o f, egS σ m (j + 1) o f ↔ egS σ m j o f := fun o f => by
          rw [egS_st]
          exact ⟨fun q => q.elim id (fun q => by rw [c] at q; cases q.1), Or.inl⟩
        exact ih (j + 1) g' x M (by omega) hg' hC h25 hK (fun o ho => ⟨(hB o ho).1, fun f => ((hB o ho).2 f).trans (ee o f).symm⟩) hx fun o => (hb o).trans ⟨fun ⟨f, hf⟩ => ⟨f, (ee o f).mpr hf⟩, fun ⟨f, hf⟩ => ⟨f, (ee o f).mp hf⟩⟩
      | false =>
        rw [ifn (by decide)]
        have k60 := hK j (by omega)
        have k25 := h25 (cutK σ j) cj.1.2
        have m21 : M 21 = σ 3 := hC.2.1.2.2.1
        simp only [ckp (show (0 : Int) ≤ (j : Int) ∧ (j : Int) < 12 by omega), Int.toNat_natCast, k60, ckp (show (0 : Int) ≤ (cutK σ j : Int) ∧ (cutK σ j : Int) < 40 by omega), k25, cj.2.1.1, ckp (show (0 : Int) ≤ (cutO σ j : Int) ∧ (cutO σ j : Int) < 16 by omega), m21, cj.2.2.1]
        have fr : Fr cdC [58] M (mset M 58 (cutO σ j) (ior (M 58 (cutO σ j)) (ish 1 (cutF σ j)))) := Fr.rf.set rfl
        obtain ⟨w, M2, k1, k2, k3⟩ := ih (j + 1) g' (ior x (ish 1 (cutO σ j))) (mset M 58 (cutO σ j) (ior (M 58 (cutO σ j)) (ish 1 (cutF σ j)))) (by omega) hg' (hC.fr fr (by decide)) (fun s hs => by rw [fr 25 s rfl]; exact h25 s hs) (fun k hk => by rw [fr 60 k rfl]; exact hK k hk) (fun o ho => by
          by_cases e : o = cutO σ j
          · subst e
            rw [mg_s]
            refine ⟨ir_or _ _, fun f => ?_⟩
            rw [bI_or, Bool.or_eq_true, (hB _ ho).2 f, bI_bit (by omega), decide_eq_true_eq, egS_st]
            exact or_congr Iff.rfl ⟨fun q => ⟨c, rfl, q.symm⟩, fun q => q.2.2.symm⟩
          · rw [mg_j _ _ _ e]
            refine ⟨(hB o ho).1, fun f => ((hB o ho).2 f).trans ?_⟩
            rw [egS_st]
            exact ⟨Or.inl, fun q => q.elim id fun q => absurd q.2.1.symm e⟩) (ir_or _ _) fun o => by
          rw [bI_or, Bool.or_eq_true, hb o, bI_bit (by omega), decide_eq_true_eq]
          constructor
          · rintro (⟨f, hf⟩ | q)
            · exact ⟨f, egS_st.mpr (Or.inl hf)⟩
            · exact ⟨cutF σ j, egS_st.mpr (Or.inr ⟨c, q.symm, rfl⟩)⟩
          · rintro ⟨f, hf⟩
            rcases egS_st.mp hf with q | q
            · exact Or.inl ⟨f, q⟩
            · exact Or.inr q.2.1.symm
        exact ⟨w, M2, k1, fr.trans k2, k3⟩
  have fr : Fr cdC [58] M (mfil M 58 16 0) := Fr.rf.rowset fun _ => rfl
  have no : ∀ o f, ¬ egS σ m 0 o f := fun o f ⟨j, j1, _⟩ => Nat.not_lt_zero j j1
  obtain ⟨w, M2, k1, k2, k3⟩ := go (cutN σ) 0 n 0 (mfil M 58 16 0) (by omega) (by omega) (hC.fr fr (by decide)) (fun s hs => by rw [fr 25 s rfl]; exact h25 s hs) (fun k hk => by rw [fr 60 k rfl]; exact hK k hk) (fun o ho => by
    rw [mfil_in _ _ _ _ ho]
    exact ⟨ir_0, fun f => by rw [bI_0]; exact ⟨fun q => (by cases q), fun q => absurd q (no o f)⟩⟩) ir_0 fun o => by
    rw [bI_0]; exact ⟨fun q => (by cases q), fun ⟨f, q⟩ => absurd q (no o f)⟩
  exact ⟨w, M2, k1, fr.trans k2, k3⟩
end
