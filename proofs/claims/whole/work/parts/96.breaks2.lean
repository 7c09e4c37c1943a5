/-! breaks(..): the reference; the two searches together; the call. -/
section
variable {σ : Mm} {M N : Mm} {m : Nat}
theorem bI_all {k : Nat} (hk : k < 31) (i : Nat) : bI (((2 ^ k - 1 : Nat) : Int)) i = decide (i < k) := by
  rw [bI_nat, Nat.testBit_two_pow_sub_one]
  by_cases c : i < k
  · rw [decide_eq_true c, decide_eq_true (show i < 32 by omega)]; rfl
  · rw [decide_eq_false c, Bool.and_false]
theorem w_all {k : Nat} (hk : k < 17) : w32 (ish 1 (k : Int) - 1) = ((2 ^ k - 1 : Nat) : Int) := by
  have h1 : (((2 : Nat) ^ k : Nat) : Int) = (2 : Int) ^ k := by simp
  have h2 := Nat.two_pow_pos k
  have h3 : (2 : Nat) ^ k ≤ 2 ^ 16 := Nat.pow_le_pow_right (by decide) (by omega)
  rw [p2_k k (by omega), ← h1, w32_s (by omega) (by omega)]
  omega
theorem l_m_hr19 (n : Nat) (hI : Inv σ) (hA : AgR N σ) (hB : HBr (N 43) σ m (cutN σ)) (k11 : Int → Int → Mm → Rr) {S0 : Int} : ∀ (k h g : Nat) (x fl : Int), h + k = (σ 0 1).toNat → k < g → PSb σ m S0 x h → ((fl = 0 ∧ ((∀ y, bI x y = bI S0 y) ∧ ∀ y, y < h → bI S0 y = true → ∃ z, egS σ m (cutN σ) y z ∧ bI S0 z = true)) ∨ (fl = 1 ∧ cn (σ 0 1).toNat (bI x) < cn (σ 0 1).toNat (bI S0))) → ∃ x' fl', lp_m_hasRing_19 n k11 g x fl h N = k11 x' fl' N ∧ PSb σ m S0 x' (σ 0 1).toNat ∧ ((fl' = 0 ∧ ((∀ y, bI x' y = bI S0 y) ∧ ∀ y, y < (σ 0 1).toNat → bI S0 y = true → ∃ z, egS σ m (cutN σ) y z ∧ bI S0 z = true)) ∨ (fl' = 1 ∧ cn (σ 0 1).toNat (bI x') < cn (σ 0 1).toNat (bI S0))) := by
  have bh := hI.1.2.1
  intro k
  induction k with
  | zero =>
    intro h g x fl hh hg p q
    obtain ⟨g', rfl, _⟩ := f_pos hg
    have e : h = (σ 0 1).toNat := by omega
    subst e
    show ∃ x' fl', f_m_hasRing_19 n k11 (lp_m_hasRing_19 n k11 g') x fl _ N = _ ∧ _
    unfold f_m_hasRing_19
    rw [ifp (by rw [hA 0 1 rfl]; omega)]
    exact ⟨x, fl, rfl, p, q⟩
  | succ k ih =>
    intro h g x fl hh hg p q
    obtain ⟨g', rfl, hg'⟩ := f_pos hg
    show ∃ x' fl', f_m_hasRing_19 n k11 (lp_m_hasRing_19 n k11 g') x fl h N = _ ∧ _
    have ha := an_0 hI hB (o := h) (by omega) x
    have keep : ((∀ y, bI x y = bI S0 y) → bI S0 h = true → ∃ z, egS σ m (cutN σ) h z ∧ bI S0 z = true) → ∃ x' fl', lp_m_hasRing_19 n k11 g' x fl ((h + 1 : Nat) : Int) N = k11 x' fl' N ∧ PSb σ m S0 x' (σ 0 1).toNat ∧ ((fl' = 0 ∧ ((∀ y, bI x' y = bI S0 y) ∧ ∀ y, y < (σ 0 1).toNat → bI S0 y = true → ∃ z, egS σ m (cutN σ) y z ∧ bI S0 z = true)) ∨ (fl' = 1 ∧ cn (σ 0 1).toNat (bI x') < cn (σ 0 1).toNat (bI S0))) := fun w => by
      refine ih (h + 1) g' x fl (by omega) hg' (PSb_keep p p.1 (fun _ => rfl) w) ?_
      rcases q with q | q
      · refine Or.inl ⟨q.1, q.2.1, fun y hy hb => ?_⟩
        by_cases e : y = h
        · rw [e] at hb ⊢; exact w q.2.1 hb
        · exact q.2.2 y (by omega) hb
      · exact Or.inr q
    unfold f_m_hasRing_19 f_m_hasRing_59
    rw [ifn (by rw [hA 0 1 rfl]; omega), bit_I (by omega), w_succ (by omega)]
    by_cases c2 : bI x h = true
    · rw [ifp c2, ifn (show ¬ (1 : Int) = 0 by decide), ckp (by omega), Int.toNat_natCast]
      by_cases c : ian (N 43 h) x = 0
      · rw [ifp c]
        have p' := PSb_del p (by omega) c2 (ha.mp c) (ir_an _ _) (bI_del (by omega) x)
        refine ih (h + 1) g' _ 1 (by omega) hg' p' (Or.inr ⟨rfl, ?_⟩)
        have h1 := cn_less (p := bI (ian x (ixo (ish 1 (h : Int)) (-1)))) (q := bI x) (fun y hy => by rw [bI_del (by omega), Bool.and_eq_true] at hy; exact hy.1) (x := h) (k := (σ 0 1).toNat) (by omega) (by rw [bI_del (by omega), decide_eq_false (fun q => q rfl), Bool.and_false]) c2
        have h2 := cn_imp (p := bI x) (q := bI S0) p.2.1 (σ 0 1).toNat
        omega
      · rw [ifn c]
        refine keep fun q1 _ => ?_
        have : ∃ z, egS σ m (cutN σ) h z ∧ bI x z = true := Classical.byContradiction fun w => c (ha.mpr w)
        obtain ⟨z, z1, z2⟩ := this
        exact ⟨z, z1, by rw [← q1]; exact z2⟩
    · rw [ifn c2, ifp rfl]
      exact keep fun q1 q2 => absurd (by rw [q1]; exact q2) c2
theorem l_m_hr11 (n : Nat) (hn : 3000 ≤ n) (hI : Inv σ) (hA : AgR N σ) (hB : HBr (N 43) σ m (cutN σ)) : ∀ (k g : Nat) (x : Int), cn (σ 0 1).toNat (bI x) ≤ k → k + 1 < g → inR x → (∀ y, bI x y = true → (y : Int) < σ 0 1) → (∀ y, alvX σ m y → bI x y = true) → ∃ w, lp_m_hasRing_11 n g x 1 N = some (w, N) ∧ (w ≠ 0 ↔ ∃ y, alvX σ m y) := by
  have bh := hI.1.2.1
  have fin : ∀ (x : Int) (g : Nat), inR x → (∀ y, alvX σ m y → bI x y = true) → closB σ m x → ∃ w, lp_m_hasRing_11 n (g + 1) x 0 N = some (w, N) ∧ (w ≠ 0 ↔ ∃ y, alvX σ m y) := fun x g hx ha hcl => by
    show ∃ w, f_m_hasRing_11 n (lp_m_hasRing_11 n g) x 0 N = _ ∧ _
    unfold f_m_hasRing_11
    rw [ifp rfl]
    by_cases c : x = 0
    · rw [ifp c]
      refine ⟨0, rfl, fun q => absurd rfl q, fun ⟨y, hy⟩ => ?_⟩
      have := ha y hy
      rw [c, bI_0] at this; cases this
    · rw [ifn c]
      refine ⟨1, rfl, fun _ => ?_, fun _ => by decide⟩
      exact Classical.byContradiction fun q => c ((bI_eq0 hx).mpr fun k _ => by
        cases e : bI x k with
        | false => rfl
        | true => exact absurd ⟨k, closB_alv hcl e⟩ q)
  intro k
  induction k with
  | zero =>
    intro g x hk hg hx hH ha
    obtain ⟨g', rfl, hg'⟩ := f_pos (show 1 < g by omega)
    obtain ⟨x1, fl, z1, z2, z3⟩ := l_m_hr19 n hI hA hB (lp_m_hasRing_11 n g') (S0 := x) (σ 0 1).toNat 0 n x 0 (by omega) (by omega) (PSb_0 hx ha) (Or.inl ⟨rfl, fun _ => rfl, fun y hy => absurd hy (Nat.not_lt_zero y)⟩)
    have z1' : lp_m_hasRing_19 n (lp_m_hasRing_11 n g') n x 0 0 N = _ := z1
    show ∃ w, f_m_hasRing_11 n (lp_m_hasRing_11 n g') x 1 N = _ ∧ _
    unfold f_m_hasRing_11
    rw [ifn (by decide), z1']
    rcases z3 with q | q
    · obtain ⟨g2, rfl, _⟩ := f_pos hg'
      rw [q.1]
      exact fin x1 g2 z2.1 z2.2.2.1 fun y hy => by
        have hy' : bI x y = true := by rw [← q.2.1]; exact hy
        obtain ⟨z, w1, w2⟩ := q.2.2 y (by have := hH y hy'; omega) hy'
        exact ⟨z, w1, by rw [q.2.1]; exact w2⟩
    · omega
  | succ k ih =>
    intro g x hk hg hx hH ha
    obtain ⟨g', rfl, hg'⟩ := f_pos (show 1 < g by omega)
    obtain ⟨x1, fl, z1, z2, z3⟩ := l_m_hr19 n hI hA hB (lp_m_hasRing_11 n g') (S0 := x) (σ 0 1).toNat 0 n x 0 (by omega) (by omega) (PSb_0 hx ha) (Or.inl ⟨rfl, fun _ => rfl, fun y hy => absurd hy (Nat.not_lt_zero y)⟩)
    have z1' : lp_m_hasRing_19 n (lp_m_hasRing_11 n g') n x 0 0 N = _ := z1
    show ∃ w, f_m_hasRing_11 n (lp_m_hasRing_11 n g') x 1 N = _ ∧ _
    unfold f_m_hasRing_11
    rw [ifn (by decide), z1']
    rcases z3 with q | q
    · obtain ⟨g2, rfl, _⟩ := f_pos hg'
      rw [q.1]
      exact fin x1 g2 z2.1 z2.2.2.1 fun y hy => by
        have hy' : bI x y = true := by rw [← q.2.1]; exact hy
        obtain ⟨z, w1, w2⟩ := q.2.2 y (by have := hH y hy'; omega) hy'
        exact ⟨z, w1, by rw [q.2.1]; exact w2⟩
    · rw [q.1]
      exact ih g' x1 (by omega) (by omega) z2.1 (fun y hy => hH y (z2.2.1 y hy)) z2.2.2.1
theorem e_m_hasRing (n : Nat) (hn : 3000 ≤ n) (hI : Inv σ) (hA : AgR N σ) (hB : HBr (N 43) σ m (cutN σ)) : ∃ w, f_m_hasRing n N = some (w, N) ∧ (w ≠ 0 ↔ ∃ y, alvX σ m y) := by
  have bh := hI.1.2.1
  obtain ⟨H, hH⟩ := nat_of bh.1
  unfold f_m_hasRing
  rw [hA 0 1 rfl, hH, w_all (by omega)]
  have hr : inR ((2 ^ H - 1 : Nat) : Int) := by
    have h3 : (2 : Nat) ^ H ≤ 2 ^ 16 := Nat.pow_le_pow_right (by decide) (by omega)
    exact ir_nat (by omega)
  have hb := bI_all (k := H) (by omega)
  exact l_m_hr11 n hn hI hA hB 16 n _ (by have := cn_le (bI ((2 ^ H - 1 : Nat) : Int)) (σ 0 1).toNat; omega) (by omega) hr (fun y hy => by rw [hb] at hy; have := of_decide_eq_true hy; omega) fun y hy => by
    obtain ⟨z, z1, _⟩ := alv_st hy
    have := (egS_in hI (Nat.le_refl _) z1).1.1
    rw [hb, decide_eq_true (show y < H by omega)]
def CUR (N σ : Mm) : Prop := ∀ k, k < cutN σ → N 38 k = (cutK σ k : Int)
theorem l_m_br12 (n : Nat) (hI : Inv σ) : ∀ (k s g : Nat) (N : Mm), s + k = (σ 0 3).toNat → k < g → AgR N σ → (∀ s : Nat, (s : Int) < σ 0 3 → N 22 s = (Wh σ s (σ 0 0)).1) → cn s (cutP σ) ≤ 12 → (∀ k, k < cn s (cutP σ) → N 38 k = (cutK σ k : Int)) → ∃ N', lp_m_breaks_12 n g (cn s (cutP σ)) s N = f_m_breaks_78 n (cutN σ) N' ∧ Fr cdR [38] N N' ∧ CUR N' σ := by
  have b1 := hI.2.1.1
  have bh := hI.1.2.1
  have p4 := hI.2.1.2.2.2.1
  intro k
  induction k with
  | zero =>
    intro s g N hs hg hA hW h12 h38
    obtain ⟨g', rfl, _⟩ := f_pos hg
    have e : s = (σ 0 3).toNat := by omega
    subst e
    have e2 : cutN σ = cn (σ 0 3).toNat (cutP σ) := by unfold cutN pkc; omega
    show ∃ N', f_m_breaks_12 n (lp_m_breaks_12 n g') _ _ N = _ ∧ _
    unfold f_m_breaks_12
    rw [ifp (by rw [hA 0 3 rfl]; omega), e2]
    exact ⟨N, rfl, Fr.rf, fun k hk => h38 k (by omega)⟩
  | succ k ih =>
    intro s g N hs hg hA hW h12 h38
    obtain ⟨g', rfl, hg'⟩ := f_pos hg
    show ∃ N', f_m_breaks_12 n (lp_m_breaks_12 n g') _ s N = _ ∧ _
    unfold f_m_breaks_12 f_m_breaks_72
    rw [ifn (by rw [hA 0 3 rfl]; omega)]
    by_cases c8 : 12 ≤ (cn s (cutP σ) : Int)
    · rw [ifp c8]
      have hm := cn_mono (cutP σ) (show s ≤ (σ 0 3).toNat by omega)
      have e2 : cutN σ = cn s (cutP σ) := by unfold cutN pkc; omega
      rw [e2]
      exact ⟨N, rfl, Fr.rf, fun k hk => h38 k (by omega)⟩
    · have q := ow_in hI (s := s) (by omega) (σ 0 0)
      have p5 := p4 s (by omega)
      have a5 : N 5 = σ 5 := hA.row (k := 5) (fun _ => rfl)
      have aK : N 1 = σ 1 := hA.row (k := 1) (fun _ => rfl)
      rw [ifn c8, ckp (by omega), Int.toNat_natCast, a5, hW s (by omega), w_succ (show s < 2000000000 by omega), aK]
      have skip : cutP σ s = false → ∃ N', lp_m_breaks_12 n g' (cn s (cutP σ)) ((s + 1 : Nat) : Int) N = f_m_breaks_78 n (cutN σ) N' ∧ Fr cdR [38] N N' ∧ CUR N' σ := fun hP => by
        have := ih (s + 1) g' N (by omega) hg' hA hW (by rw [cn_f hP]; exact h12) (by rw [cn_f hP]; exact h38)
        rw [cn_f hP] at this
        exact this
      by_cases c0 : σ 5 s = 0
      · rw [ifp c0]
        exact skip (by unfold cutP; rw [decide_eq_false (show ¬ 0 < σ 5 s by omega)]; rfl)
      · rw [ifn c0, ckp (by omega)]
        rcases q with q | q
        · rw [ifp (by omega)]
          exact skip (by unfold cutP; rw [decide_eq_false (show ¬ 0 ≤ ow σ s (σ 0 0) by omega)]; simp)
        · rw [← q.2.2.1, ifn (by omega), ckp (by omega), ckp (by omega)]
          by_cases c : σ 1 (ow σ s (σ 0 0)).toNat = 1
          · have hP : cutP σ s = true := by unfold cutP; rw [decide_eq_true (show 0 < σ 5 s by omega), decide_eq_true q.1, isF_of c]; rfl
            rw [ifp c, ckp (by omega), w_succ (show cn s (cutP σ) < 2000000000 by omega), ← cn_t hP, Int.toNat_natCast]
            have fr : Fr cdR [38] N (mset N 38 (cn s (cutP σ)) (s : Int)) := Fr.rf.set rfl
            obtain ⟨N2, k1, k2, k3⟩ := ih (s + 1) g' (mset N 38 (cn s (cutP σ)) (s : Int)) (by omega) hg' (hA.fr fr (by decide)) (fun y hy => by rw [fr 22 y rfl]; exact hW y hy) (by rw [cn_t hP]; omega) (fun k hk => by
              rw [cn_t hP] at hk
              by_cases e : k = cn s (cutP σ)
              · rw [e, mg_s]; unfold cutK; rw [pkN_eq (by omega) hP]
              · rw [mg_j _ _ _ e]; exact h38 k (by omega))
            exact ⟨N2, k1, fr.trans k2, k3⟩
          · rw [ifn c]
            have : isF (σ 1) (ow σ s (σ 0 0)).toNat = false := decide_eq_false c
            exact skip (by unfold cutP; rw [this]; simp)
theorem l_m_br138 (n : Nat) (hn : 3000 ≤ n) (hI : Inv σ) (hm : m < 4096) (k86 : Int → Int → Int → Mm → Rr) (x2 : Int) : ∀ (k j g : Nat) (N : Mm), j + k = cutN σ → k < g → AgR N σ → (∀ s : Nat, (s : Int) < σ 0 3 → N 22 s = (Wh σ s (σ 0 0)).1) → CUR N σ → HBr (N 43) σ m j → ∃ w N', lp_m_breaks_138 n k86 g (cutN σ) x2 m j N = (if w ≠ 0 then k86 (cutN σ) x2 ((m + 1 : Nat) : Int) N' else k86 (cutN σ) m ((m + 1 : Nat) : Int) N') ∧ Fr cdR [43] N N' ∧ ((w : Int) ≠ 0 ↔ ∃ y, alvX σ m y) := by
  have bh := hI.1.2.1
  have bC := cutN_le σ
  intro k
  induction k with
  | zero =>
    intro j g N hj hg hA hW hK hB
    obtain ⟨g', rfl, _⟩ := f_pos hg
    have e : j = cutN σ := by omega
    subst e
    show ∃ w N', f_m_breaks_138 n k86 (lp_m_breaks_138 n k86 g') _ x2 m _ N = _ ∧ _
    obtain ⟨w, w1, w2⟩ := e_m_hasRing n hn hI hA hB
    unfold f_m_breaks_138 f_m_breaks_202
    rw [ifp (by omega), w1, bnd_mk, w_succ (by omega)]
    exact ⟨w, N, rfl, Fr.rf, w2⟩
  | succ k ih =>
    intro j g N hj hg hA hW hK hB
    obtain ⟨g', rfl, hg'⟩ := f_pos hg
    show ∃ w N', f_m_breaks_138 n k86 (lp_m_breaks_138 n k86 g') _ x2 m j N = _ ∧ _
    have cj := cut_in hI (j := j) (by omega)
    unfold f_m_breaks_138 f_m_breaks_187
    rw [ifn (by omega), bit_I (by omega), bI_testBit hm (by omega), w_succ (show j < 2000000000 by omega)]
    cases c : m.testBit j with
    | true =>
      rw [ifp rfl, ifp (by decide)]
      have ee : ∀ o f, egS σ m (j + 1) o f ↔ egS σ m j o f := fun o f => by
        rw [egS_st]
        exact ⟨fun q => q.elim id (fun q => by rw [c] at q; cases q.1), Or.inl⟩
      exact ih (j + 1) g' N (by omega) hg' hA hW hK (fun o ho => ⟨(hB o ho).1, fun f => ((hB o ho).2 f).trans (ee o f).symm⟩)
    | false =>
      rw [ifn (by decide)]
      have k38 := hK j (by omega)
      have k22 := hW (cutK σ j) cj.1.2
      have e22 : (Wh σ (cutK σ j) (σ 0 0)).1 = (cutO σ j : Int) := by
        have q := ow_in hI (s := cutK σ j) cj.1.2 (σ 0 0)
        have := cj.2.1.1
        omega
      have a3 : N 3 = σ 3 := hA.row (k := 3) (fun _ => rfl)
      simp only [ckp (show (0 : Int) ≤ (j : Int) ∧ (j : Int) < 12 by omega), Int.toNat_natCast, k38, ckp (show (0 : Int) ≤ (cutK σ j : Int) ∧ (cutK σ j : Int) < 40 by omega), k22, e22, ckp (show (0 : Int) ≤ (cutO σ j : Int) ∧ (cutO σ j : Int) < 16 by omega), a3, cj.2.2.1]
      have fr : Fr cdR [43] N (mset N 43 (cutO σ j) (ior (N 43 (cutO σ j)) (ish 1 (cutF σ j)))) := Fr.rf.set rfl
      obtain ⟨w, N2, k1, k2, k3⟩ := ih (j + 1) g' (mset N 43 (cutO σ j) (ior (N 43 (cutO σ j)) (ish 1 (cutF σ j)))) (by omega) hg' (hA.fr fr (by decide)) (fun s hs => by rw [fr 22 s rfl]; exact hW s hs) (fun k hk => by rw [fr 38 k rfl]; exact hK k hk) (fun o ho => by
        by_cases e : o = cutO σ j
        · subst e
          rw [mg_s]
          refine ⟨ir_or _ _, fun f => ?_⟩
          rw [bI_or, Bool.or_eq_true, (hB _ ho).2 f, bI_bit (by omega), decide_eq_true_eq, egS_st]
          exact or_congr Iff.rfl ⟨fun q => ⟨c, rfl, q.symm⟩, fun q => q.2.2.symm⟩
        · rw [mg_j _ _ _ e]
          refine ⟨(hB o ho).1, fun f => ((hB o ho).2 f).trans ?_⟩
          rw [egS_st]
          exact ⟨Or.inl, fun q => q.elim id fun q => absurd q.2.1.symm e⟩)
      exact ⟨w, N2, k1, fr.trans k2, k3⟩
theorem l_m_br114 (n : Nat) (k86 : Int → Int → Int → Mm → Rr) (x1 x2 x3 : Int) : ∀ (k j g : Nat) (N : Mm), j + k = 16 → k < g → (∀ o, o < j → N 43 o = 0) → ∃ N', lp_m_breaks_114 n k86 g x1 x2 x3 j N = lp_m_breaks_138 n k86 n x1 x2 x3 0 N' ∧ Fr cdR [43] N N' ∧ ∀ o, o < 16 → N' 43 o = 0 := by
  intro k
  induction k with
  | zero =>
    intro j g N hj hg h0
    obtain ⟨g', rfl, _⟩ := f_pos hg
    show ∃ N', f_m_breaks_114 n k86 (lp_m_breaks_114 n k86 g') x1 x2 x3 j N = _ ∧ _
    unfold f_m_breaks_114
    rw [ifp (by omega)]
    exact ⟨N, rfl, Fr.rf, fun o ho => h0 o (by omega)⟩
  | succ k ih =>
    intro j g N hj hg h0
    obtain ⟨g', rfl, hg'⟩ := f_pos hg
    show ∃ N', f_m_breaks_114 n k86 (lp_m_breaks_114 n k86 g') x1 x2 x3 j N = _ ∧ _
    unfold f_m_breaks_114
    rw [ifn (by omega), ckp (by omega), w_succ (by omega), Int.toNat_natCast]
    have fr : Fr cdR [43] N (mset N 43 j 0) := Fr.rf.set rfl
    obtain ⟨N2, k1, k2, k3⟩ := ih (j + 1) g' (mset N 43 j 0) (by omega) hg' (fun o ho => by
      by_cases e : o = j
      · rw [e, mg_s]
      · rw [mg_j _ _ _ e]; exact h0 o (by omega))
    exact ⟨N2, k1, fr.trans k2, k3⟩
/-- the class is where the reference is: nothing found yet, or the same set -/
def brS (σ : Mm) (bc sz br : Int) : Prop := (bc = 0 ∧ sz = 13 ∧ br = ((2 ^ cutN σ - 1 : Nat) : Int)) ∨ ∃ b : Nat, b < 2 ^ cutN σ ∧ bc = (b : Int) ∧ br = (b : Int) ∧ sz = (pcn b : Int)
theorem pcn_less {k m : Nat} (hk : k ≤ 12) (hm : m < 2 ^ k - 1) : pcn m < pcn (2 ^ k - 1) := by
  have hp := Nat.two_pow_pos k
  have ex : ∃ i, m.testBit i ≠ (2 ^ k - 1).testBit i := Classical.byContradiction fun q => by
    have : m = 2 ^ k - 1 := Nat.eq_of_testBit_eq fun i => Classical.byContradiction fun w => q ⟨i, w⟩
    omega
  have hi : ∀ i, m.testBit i = true → (2 ^ k - 1).testBit i = true := fun i hi => by
    rw [Nat.testBit_two_pow_sub_one]
    refine decide_eq_true (Classical.byContradiction fun q => ?_)
    rw [Nat.testBit_lt_two_pow (Nat.lt_of_lt_of_le (show m < 2 ^ k by omega) (Nat.pow_le_pow_right (by decide) (show k ≤ i by omega)))] at hi
    cases hi
  obtain ⟨i, hne⟩ := ex
  have h2 : (2 ^ k - 1).testBit i = true := by
    cases c : (2 ^ k - 1).testBit i with
    | true => rfl
    | false =>
      cases c2 : m.testBit i with
      | true => rw [hi i c2] at c; cases c
      | false => rw [c, c2] at hne; exact absurd rfl hne
  have h3 : i < k := by rw [Nat.testBit_two_pow_sub_one] at h2; exact of_decide_eq_true h2
  exact cn_less hi (show i < 12 by omega) (by
    cases c2 : m.testBit i with
    | true => rw [h2, c2] at hne; exact absurd rfl hne
    | false => rfl) h2
end
