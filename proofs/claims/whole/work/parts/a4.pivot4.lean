/-! pivot(..): the call. -/
section
variable {σ : Mm} {M N : Mm} {f : Nat}
theorem l_m_pv187 (n : Nat) (hn : 70000 ≤ n) (hI : Inv σ) (hA : AgR N σ) {d : Int} {own sn : Nat → Int} {rb : Nat → Int} (hrb : ∀ x, rb x = -5 ∨ (0 ≤ rb x ∧ rb x < σ 0 1)) {mine : Nat} (hf : (f : Int) < σ 0 1) (hT : RTx N σ d own sn f) (hB : BLN (N 36) σ rb (Vt σ d own sn f) (gd σ f d)) (hm16 : mine < 16) (h37 : ∀ b' : Nat, (b' : Int) < σ 0 1 → OBk σ rb (Vt σ d own sn f) (gd σ f d) mine b' = true → N 37 (cn b' (OBk σ rb (Vt σ d own sn f) (gd σ f d) mine)) = N 36 b') {p : Nat → Bool} (hp : ∀ v x, SETv x σ rb (Vt σ d own sn f) (gd σ f d) mine v → ((carB σ d own sn f (fun h => bI (ior x (N 36 mine)) h) = true ∧ ¬ carB σ d own sn f (fun h => bI x h) = true) ↔ p v = true)) : ∀ (k v g : Nat), v + k = 2 ^ cn (σ 0 1).toNat (OBk σ rb (Vt σ d own sn f) (gd σ f d) mine) → k < g → lp_m_pivot_187 n g f (N 36 mine) (cn (σ 0 1).toNat (OBk σ rb (Vt σ d own sn f) (gd σ f d) mine)) (cn v p) v N = some ((cn (2 ^ cn (σ 0 1).toNat (OBk σ rb (Vt σ d own sn f) (gd σ f d) mine)) p : Int), N) := by
  have bh := hI.1.2.1
  have hle := cn_le (OBk σ rb (Vt σ d own sn f) (gd σ f d) mine) (σ 0 1).toNat
  have h6 : (2 : Nat) ^ cn (σ 0 1).toNat (OBk σ rb (Vt σ d own sn f) (gd σ f d) mine) ≤ 2 ^ 16 := Nat.pow_le_pow_right (by decide) (by omega)
  have h5 : (((2 : Nat) ^ cn (σ 0 1).toNat (OBk σ rb (Vt σ d own sn f) (gd σ f d) mine) : Nat) : Int) = (2 : Int) ^ cn (σ 0 1).toNat (OBk σ rb (Vt σ d own sn f) (gd σ f d) mine) := by simp
  have e1 := p2_k (cn (σ 0 1).toNat (OBk σ rb (Vt σ d own sn f) (gd σ f d) mine)) (by omega)
  rw [← h5] at e1
  intro k
  induction k with
  | zero =>
    intro v g hv hg
    obtain ⟨g', rfl, _⟩ := f_pos hg
    have e : v = 2 ^ cn (σ 0 1).toNat (OBk σ rb (Vt σ d own sn f) (gd σ f d) mine) := by omega
    show f_m_pivot_187 n (lp_m_pivot_187 n g') _ _ _ _ _ N = _
    unfold f_m_pivot_187
    rw [e1, ifp (by omega), e]
  | succ k ih =>
    intro v g hv hg
    obtain ⟨g', rfl, hg'⟩ := f_pos hg
    show f_m_pivot_187 n (lp_m_pivot_187 n g') _ _ _ _ _ N = _
    have hcv := cn_le p v
    obtain ⟨x, x1, x2⟩ := l_m_pv202 n (by omega) hI hA hrb hf hT hB h37 (lp_m_pivot_187 n g') (N 36 mine) (c := cn v p) (v := v) (by omega) (by omega) (cn (σ 0 1).toNat (OBk σ rb (Vt σ d own sn f) (gd σ f d) mine)) 0 n 0 (by omega) (by omega) (fun i => by rw [bI_0]; exact ⟨fun q => (by cases q), fun ⟨b, _, q, _⟩ => absurd q (Nat.not_lt_zero _)⟩)
    have x2' : lp_m_pivot_202 n (lp_m_pivot_187 n g') n f (N 36 mine) (cn (σ 0 1).toNat (OBk σ rb (Vt σ d own sn f) (gd σ f d) mine)) (cn v p) v 0 0 N = _ := x2
    have hpv := hp v x x1
    have I := ih (v + 1) g' (by omega) hg'
    unfold f_m_pivot_187
    rw [e1, ifn (by omega), x2']
    by_cases c : p v = true
    · rw [cn_t c] at I
      rw [ifp (hpv.mpr c)]
      exact I
    · rw [cn_f (by simpa using c)] at I
      rw [ifn (fun z => c (hpv.mp z))]
      exact I
/-- 16 or as many as there are -/
theorem OBk_16 (hI : Inv σ) {rb V : Nat → Int} (hrb : ∀ x, rb x = -5 ∨ (0 ≤ rb x ∧ rb x < σ 0 1)) (G : Int) (mine : Nat) : cn 16 (OBk σ rb V G mine) = cn (σ 0 1).toNat (OBk σ rb V G mine) := by
  have bh := hI.1.2.1
  have e : cn 16 (OBk σ rb V G mine) = cn ((σ 0 1).toNat + (16 - (σ 0 1).toNat)) (OBk σ rb V G mine) := by
    congr 1; omega
  have e2 : cn (16 - (σ 0 1).toNat) (fun v => OBk σ rb V G mine ((σ 0 1).toNat + v)) = cn (16 - (σ 0 1).toNat) (fun _ => false) := cn_congr fun v _ => OBk_f fun q => by
    obtain ⟨h, h1, h2, _⟩ := q.2
    have := voN_in hrb h1
    omega
  rw [e, cn_plus, e2, cn_no, Nat.add_zero]
/-- how often mine turns a motion -/
noncomputable def pivN (σ : Mm) (d : Int) (own sn : Nat → Int) (rb : Nat → Int) (f mine : Nat) : Nat := cn (2 ^ cn (σ 0 1).toNat (OBk σ rb (Vt σ d own sn f) (gd σ f d) mine)) (phS (OBk σ rb (Vt σ d own sn f) (gd σ f d) mine) (gBk σ rb (gd σ f d)) (bsS σ (voN σ rb) (Vt σ d own sn f) (σ 0 1).toNat) 16 (tf σ d own sn f + 1 - bsS σ (voN σ rb) (Vt σ d own sn f) (σ 0 1).toNat mine) (if 0 ≤ gd σ f d ∧ voN σ rb (gd σ f d).toNat = mine then sm 16 (fun b => if OBk σ rb (Vt σ d own sn f) (gd σ f d) mine b = true then bsS σ (voN σ rb) (Vt σ d own sn f) (σ 0 1).toNat b else 0) else tf σ d own sn f))
theorem tf_in (hI : Inv σ) (d : Int) (own sn : Nat → Int) (f : Nat) : 0 ≤ tf σ d own sn f ∧ tf σ d own sn f ≤ 15968016 := by
  have h1 := fi_in hI f (w := 0) (by decide) d
  have h2 := se_in hI f (w := 0) (Or.inl rfl) d
  have h3 := Tt_in hI d own sn f
  have h4 := h1.2.2 (by decide)
  have h5 := h2.2.2 rfl
  have m1 : 0 ≤ fi σ f 0 d * Tt σ d own sn f := Int.mul_nonneg h4 h3.1
  have m2 : fi σ f 0 d * Tt σ d own sn f ≤ 999 * 15984 := Int.mul_le_mul h1.2.1 h3.2 h3.1 (by decide)
  unfold tf
  generalize fi σ f 0 d * Tt σ d own sn f = P at m1 m2
  refine ⟨Int.ediv_nonneg m1 (by omega), ?_⟩
  have := Int.ediv_le_self (se σ f 0 d) m1
  omega
theorem e_S_turns64 (n : Nat) (hn : 3000 ≤ n) (hI : Inv σ) (hC : RelC M σ) {d : Int} {own sn : Nat → Int} {rb : Nat → Int} (hrb : ∀ x, rb x = -5 ∨ (0 ≤ rb x ∧ rb x < σ 0 1)) (h45 : ∀ h : Nat, (h : Int) < σ 0 1 → M 45 h = bk σ rb h) (hG : M 43 f = gd σ f d) (h44 : M 44 f = tf σ d own sn f) (h130 : ∀ h : Nat, (h : Int) < σ 0 1 → M (130 + f) h = Vt σ d own sn f h) (hf : (f : Int) < σ 0 1) {mine : Nat} (hm : mine < 16) {s0 : Int} (hs0 : (gd σ f d < 0 ∧ s0 = 0) ∨ ∃ g : Nat, gd σ f d = (g : Int) ∧ (g : Int) < σ 0 1 ∧ s0 = ish 1 (voN σ rb g)) : ∃ (z : Int) (M' : Mm), f_S_turns_64 n f mine s0 M = some (z, M') ∧ Fr cdC [52, 1411, 54, 55] M M' ∧ (exBk σ rb (Vt σ d own sn f) (gd σ f d) mine → z = (pivN σ d own sn rb f mine : Int)) ∧ (¬ exBk σ rb (Vt σ d own sn f) (gd σ f d) mine → z = 0) := by
  have bh := hI.1.2.1
  have hV := Vt_in hI d own sn f
  have hbs := bsS_in (σ := σ) (vo := voN σ rb) hV (k := (σ 0 1).toNat) (by omega)
  have htf := tf_in hI d own sn f
  have hO16 := OBk_16 hI hrb (V := Vt σ d own sn f) (gd σ f d) mine
  obtain ⟨v, M1, v1, v2, v3, v4, v5⟩ := e_S_sumBlocks n hn hI hC hrb h45 hV (f := f) (by omega) h130
  have hgb : ∀ b, b < 32 → bI s0 b = gBk σ rb (gd σ f d) b := fun b hb => by
    unfold gBk
    rcases hs0 with ⟨q1, q2⟩ | ⟨g, g1, g2, g3⟩
    · rw [q2, bI_0, decide_eq_false (show ¬ 0 ≤ gd σ f d by omega)]; rfl
    · have := voN_in hrb g2
      rw [g3, bI_bit (by omega), g1, Int.toNat_natCast, decide_eq_true (show (0 : Int) ≤ (g : Int) by omega), Bool.true_and, Bool.eq_iff_iff, decide_eq_true_eq, decide_eq_true_eq]
      exact ⟨fun z => z.symm, fun z => z.symm⟩
  have hthere : ∀ b, b < 32 → (bI (ior v s0) b = true ↔ exBk σ rb (Vt σ d own sn f) (gd σ f d) b) := fun b hb => by
    rw [bI_or, Bool.or_eq_true, v4 b, hgb b hb]
    unfold gBk
    rw [Bool.and_eq_true, decide_eq_true_eq, decide_eq_true_eq]
    constructor
    · rintro (⟨i, i1, i2, i3⟩ | ⟨q1, q2⟩)
      · exact ⟨i, i1, i2, Or.inl i3⟩
      · have := gd_in σ f d
        exact ⟨(gd σ f d).toNat, by omega, q2, Or.inr (by omega)⟩
    · rintro ⟨i, i1, i2, i3⟩
      rcases i3 with q | q
      · exact Or.inl ⟨i, i1, i2, q⟩
      · exact Or.inr ⟨by omega, by rw [q, Int.toNat_natCast]; exact i2⟩
  unfold f_S_turns_64
  rw [v1, bnd_mk, bit_I (by omega)]
  by_cases c : exBk σ rb (Vt σ d own sn f) (gd σ f d) mine
  · rw [ifp ((hthere mine (by omega)).mpr c), ifp (show (1 : Int) ≠ 0 by decide)]
    unfold pivN
    generalize hVe : Vt σ d own sn f = V at *
    generalize hse : bsS σ (voN σ rb) V (σ 0 1).toNat = s at *
    generalize hOe : OBk σ rb V (gd σ f d) mine = O at *
    generalize hgBe : gBk σ rb (gd σ f d) = gB at *
    have hx : ∀ b, b < 16 → bI (ian (ian (ior v s0) (ixo (ish 1 (mine : Int)) (-1))) (ixo s0 (-1))) b = (O b && !gB b) := fun b hb => by
      rw [bI_and, bI_del (by omega), bI_xor, bI_m1 (by omega), hgb b (by omega)]
      have e1 : (bI (ior v s0) b && decide (b ≠ mine)) = O b := by
        rw [Bool.eq_iff_iff, Bool.and_eq_true, decide_eq_true_eq, hthere b (by omega), ← hOe, OBk_t]
        exact And.comm
      rw [e1]
      cases gB b <;> rfl
    obtain ⟨M2, k1, k2, k3, k4, k5⟩ := e_S_listOthers n hn (M := M1) (s := s) (fun b _ => hbs b) v5 (ian (ian (ior v s0) (ixo (ish 1 (mine : Int)) (-1))) (ixo s0 (-1)))
    have hcn : ∀ b, b ≤ 16 → cn b (bI (ian (ian (ior v s0) (ixo (ish 1 (mine : Int)) (-1))) (ixo s0 (-1)))) = cn b (fun x => O x && !gB x) := fun b hb => cn_congr fun i hi => hx i (by omega)
    rw [hcn 16 (Nat.le_refl _)] at k3 k5
    have ha : ∀ b, b < 16 → (O b && !gB b) = true → M2 54 (cn b (fun x => O x && !gB x)) = s b := fun b hb hO => by
      rw [← hcn b (by omega)]; exact k4 b hb (by rw [hx b hb]; exact hO)
    have hm16 := cn_le (fun x => O x && !gB x) 16
    have fr : Fr cdC [52, 1411, 54, 55] M M2 := (v2.mono (by decide)).trans (k2.mono (by decide))
    have m52 : ∀ b, b < 16 → M2 52 b = s b := fun b hb => by rw [k2 52 b rfl]; exact v5 b hb
    have m43 : M2 43 f = gd σ f d := by rw [fr 43 f rfl]; exact hG
    have m44 : M2 44 f = tf σ d own sn f := by rw [fr 44 f rfl]; exact h44
    have hsm := hbs mine
    have ways : ∀ lo hi : Int, -1000000 ≤ lo → lo ≤ 50000000 → -1000000 ≤ hi → hi ≤ 50000000 → g_ways n 20 0 0 lo hi M2 = some ((wyS (M2 54) (cn 16 (fun x => O x && !gB x)) 0 lo hi : Int), M2) := fun lo hi h1 h2 h3 h4 => e_S_ways n hm16 k3 k5 (cn 16 (fun x => O x && !gB x)) 20 0 0 lo hi (by omega) (by omega) (by omega) (by omega)
    have hfin : ∀ (lo hi lo' hi' : Int), lo' = lo - gmS O gB s 16 → hi' = hi - gmS O gB s 16 → wyS (M2 54) (cn 16 (fun x => O x && !gB x)) 0 lo' hi' = cn (2 ^ cn (σ 0 1).toNat O) (phS O gB s 16 lo hi) := fun lo hi lo' hi' h1 h2 => by
      rw [← hO16, ph_gw, gw_wy ha 16 lo hi (Nat.le_refl _), h1, h2]
    rw [k1, bnd_mk, ckp (by omega), Int.toNat_natCast, m44, m43]
    have nz : ∀ a : Nat, a < 16 → ish 1 (a : Int) ≠ 0 := fun a ha e => by
      have := bI_bit (k := a) (by omega) a
      rw [e, bI_0, decide_eq_true rfl] at this; cases this
    rcases hs0 with ⟨q1, q2⟩ | ⟨g, g1, g2, g3⟩
    · have hgm : gmS O gB s 16 = 0 := sm_zero fun b _ => by
        have : gB b = false := by rw [← hgBe]; unfold gBk; rw [decide_eq_false (by omega)]; rfl
        rw [this, Bool.and_false, ifn (show ¬ false = true by decide)]
      rw [q2, ifp (show (0 : Int) ≠ ish 1 (mine : Int) from fun z => nz mine hm z.symm), ifn (show ¬ (0 : Int) ≠ 0 by decide)]
      unfold f_S_turns_178
      rw [ckp (by omega), Int.toNat_natCast, m52 mine hm, w32_s (x := tf σ d own sn f - 0) (by omega) (by omega), w32_s (x := tf σ d own sn f - 0 + 1) (by omega) (by omega), w32_s (by omega) (by omega), ways _ _ (by omega) (by omega) (by omega) (by omega), bnd_mk]
      refine ⟨_, M2, rfl, fr, fun _ => ?_, fun w => absurd c w⟩
      rw [ifn (show ¬ (0 ≤ gd σ f d ∧ voN σ rb (gd σ f d).toNat = mine) by omega)]
      exact congrArg _ (hfin _ _ _ _ (by omega) (by omega))
    · have hv := voN_in hrb g2
      have hgBv : ∀ b, gB b = decide (voN σ rb g = b) := fun b => by
        rw [← hgBe]; unfold gBk; rw [g1, Int.toNat_natCast, decide_eq_true (show (0 : Int) ≤ (g : Int) by omega), Bool.true_and]
      have hbit : ∀ a b : Nat, a < 16 → b < 16 → (ish 1 (a : Int) = ish 1 (b : Int) ↔ a = b) := fun a b ha hb => ⟨fun e => by
        have := bI_bit (k := a) (by omega) a
        rw [e, bI_bit (by omega), decide_eq_true rfl] at this
        exact of_decide_eq_true this, fun e => by rw [e]⟩
      by_cases c2 : voN σ rb g = mine
      · have hOm : O mine = false := by rw [← hOe]; exact OBk_f fun w => w.1 rfl
        have hgm : gmS O gB s 16 = 0 := sm_zero fun b _ => by
          rw [hgBv b]
          by_cases z : voN σ rb g = b
          · rw [← z, c2, hOm, Bool.false_and, ifn (show ¬ false = true by decide)]
          · rw [decide_eq_false z, Bool.and_false, ifn (show ¬ false = true by decide)]
        have hrs : M2 55 0 = sm 16 (fun b => if O b = true then s b else 0) := by
          rw [k3.2 0 (Nat.zero_le _), Nat.sub_zero, rs_sm ha 16 (Nat.le_refl _)]
          refine sm_congr fun b _ => ?_
          rw [hgBv b]
          by_cases z : voN σ rb g = b
          · rw [← z, c2, hOm]; rfl
          · rw [decide_eq_false z]; cases O b <;> rfl
        have hrs2 := rsS_ub (a := M2 54) (B := 15984) (r := cn 16 (fun x => O x && !gB x)) (k := 0) fun i _ hi => (k5 i (by omega)).2
        have hrs3 := rsS_nn (a := M2 54) (r := cn 16 (fun x => O x && !gB x)) (k := 0) fun i hi => (k5 i (by omega)).1
        have hrs4 : ((cn 16 (fun x => O x && !gB x) : Nat) : Int) * 15984 ≤ 16 * 15984 := Int.mul_le_mul_of_nonneg_right (by omega) (by decide)
        have hrs5 : M2 55 0 = rsS (M2 54) (cn 16 (fun x => O x && !gB x)) 0 := by rw [k3.2 0 (Nat.zero_le _), Nat.sub_zero]
        rw [g3, c2, ifn (fun z => z rfl), ckp (by omega), Int.toNat_natCast, m52 mine hm, w32_s (x := tf σ d own sn f + 1) (by omega) (by omega), w32_s (by omega) (by omega), show (0 : Int).toNat = 0 from rfl, ways _ _ (by omega) (by omega) (by omega) (by omega), bnd_mk]
        refine ⟨_, M2, rfl, fr, fun _ => ?_, fun w => absurd c w⟩
        rw [ifp (show 0 ≤ gd σ f d ∧ voN σ rb (gd σ f d).toNat = mine from ⟨by omega, by rw [g1, Int.toNat_natCast]; exact c2⟩), ← hrs]
        exact congrArg _ (hfin _ _ _ _ (by omega) (by omega))
      · have hOg : O (voN σ rb g) = true := by rw [← hOe]; exact OBk_t.mpr ⟨c2, g, g2, rfl, Or.inr g1⟩
        have hgm : gmS O gB s 16 = s (voN σ rb g) := by
          have e1 : gmS O gB s 16 = sm 16 (fun b => if b = voN σ rb g then s (voN σ rb g) else 0) := sm_congr fun b _ => by
            rw [hgBv b]
            by_cases z : voN σ rb g = b
            · rw [decide_eq_true z, ← z, hOg, ifp (by decide), ifp rfl]
            · rw [decide_eq_false z, Bool.and_false, ifn (show ¬ false = true by decide), ifn (fun w => z w.symm)]
          rw [e1, sm_pt _ _ (by omega)]
        have hsg := hbs (voN σ rb g)
        have h45' : ∀ h : Nat, (h : Int) < σ 0 1 → M2 45 h = bk σ rb h := fun h hh => by rw [fr 45 h rfl]; exact h45 h hh
        rw [g3, ifp (show ish 1 (voN σ rb g : Int) ≠ ish 1 (mine : Int) from fun z => c2 ((hbit _ _ (by omega) hm).mp z)), ifp (show ish 1 (voN σ rb g : Int) ≠ 0 from nz _ (by omega)), ckp (by omega), g1, e_U_voice n hrb h45' g2 (by omega), bnd_mk, ckp (by omega), Int.toNat_natCast, m52 _ (by omega)]
        unfold f_S_turns_178
        rw [ckp (by omega), Int.toNat_natCast, m52 mine hm, w32_s (x := tf σ d own sn f - s (voN σ rb g)) (by omega) (by omega), w32_s (x := tf σ d own sn f - s (voN σ rb g) + 1) (by omega) (by omega), w32_s (by omega) (by omega), ways _ _ (by omega) (by omega) (by omega) (by omega), bnd_mk]
        refine ⟨_, M2, rfl, fr, fun _ => ?_, fun w => absurd c w⟩
        rw [ifn (show ¬ (0 ≤ (g : Int) ∧ voN σ rb (g : Int).toNat = mine) from fun z => c2 (by rw [Int.toNat_natCast] at z; exact z.2))]
        exact congrArg _ (hfin _ _ _ _ (by omega) (by omega))
  · rw [ifn (fun z => c ((hthere mine (by omega)).mp z)), ifn (show ¬ (0 : Int) ≠ 0 by decide)]
    exact ⟨0, M1, rfl, v2.mono (by decide), fun w => absurd w c, fun _ => rfl⟩
end
