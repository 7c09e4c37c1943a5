/-! pivot(..): the call. -/
section
variable {σ : Mm} {M N : Mm} {f : Nat}
theorem l_m_pv187 (n : Nat) (hn : 70000 ≤ n) (hI : Inv σ) (hA : AgR N σ) {d : Int} {own sn : Nat → Int} {rb : Nat → Int} (hrb : ∀ x, rb x = -5 ∨ (0 ≤ rb x ∧ rb x < σ 0 1)) {mine : Nat} (hf : (f : Int) < σ 0 1) (hT : RTx N σ d own sn f) (hB : BLN (N 36) σ rb (Vt σ d own sn f) (gd σ f d)) (hm16 : mine < 16) (h37 : ∀ b' : Nat, (b' : Int) < σ 0 1 → OBk σ rb (Vt σ d own sn f) (gd σ f d) mine b' = true → N 37 (cn b' (OBk σ rb (Vt σ d own sn f) (gd σ f d) mine)) = N 36 b') {p : Nat → Bool} (hp : ∀ v x, SETv x σ rb (Vt σ d own sn f) (gd σ f d) mine v → ((carB σ d own sn f (fun h => bI (ior x (N 36 mine)) h) = true ∧ ¬ carB σ d own sn f (fun h => bI x h) = true) ↔ p v = true)) : ∀ (k v g : Nat), v + k = 2 ^ cn (σ 0 1).toNat (OBk σ rb (Vt σ d own sn f) (gd σ f d) mine) → k < g → lp_m_pivot_187 n g f (N 36 mine) (cn (σ 0 1).toNat (OBk σ rb (Vt σ d own sn f) (gd σ f d) mine)) (cn v p) v N = some ((cn (2 ^ cn (σ 0 1).toNat (OBk σ rb (Vt σ d own sn f) (gd σ f d) mine)) p : Int), N) := by
  have bh := hI.1.2.1
  have hle := cn_le (OBk σ rb (Vt σ d own sn f) (gd σ f d) mine) (σ 0 1).toNat
  have h6 : (2 : Nat) ^ cn (σ 0 1).toNat (OBk σ rb (Vt σ d own sn f) (gd σ f d) mine) ≤ 2 ^ 16 := Nat.pow_le_pow_right (by decide) (by omega)
  have h5 : (((2 : Nat) ^ cn (σ 0 1).toNat (OBk σ rb (Vt σ d own sn f) (gd σ f d) mine) : Nat) : Int) = (2 : Int) ^ cn (σ 0 1).toNat (OBk σ rb (Vt σ d own sn f) (gd σ f d) mine) := by simp
  have e1 := p2_k (cn (σ 0 1).toNat (OBk σ rb (Vt σ d own sn f) (gd σ f d) mine)) (by omega)
  rw [← h5] at e1
  intro k
  induction k with
  | zero =>
    intro v g hv hg
    obtain ⟨g', rfl, _⟩ := f_pos hg
    have e : v = 2 ^ cn (σ 0 1).toNat (OBk σ rb (Vt σ d own sn f) (gd σ f d) mine) := by omega
    show f_m_pivot_187 n (lp_m_pivot_187 n g') _ _ _ _ _ N = _
    unfold f_m_pivot_187
    rw [e1, ifp (by omega), e]
  | succ k ih =>
    intro v g hv hg
    obtain ⟨g', rfl, hg'⟩ := f_pos hg
    show f_m_pivot_187 n (lp_m_pivot_187 n g') _ _ _ _ _ N = _
    have hcv := cn_le p v
    obtain ⟨x, x1, x2⟩ := l_m_pv202 n (by omega) hI hA hrb hf hT hB h37 (lp_m_pivot_187 n g') (N 36 mine) (c := cn v p) (v := v) (by omega) (by omega) (cn (σ 0 1).toNat (OBk σ rb (Vt σ d own sn f) (gd σ f d) mine)) 0 n 0 (by omega) (by omega) (fun i => by rw [bI_0]; exact ⟨fun q => (by cases q), fun ⟨b, _, q, _⟩ => absurd q (Nat.not_lt_zero _)⟩)
    have x2' : lp_m_pivot_202 n (lp_m_pivot_187 n g') n f (N 36 mine) (cn (σ 0 1).toNat (OBk σ rb (Vt σ d own sn f) (gd σ f d) mine)) (cn v p) v 0 0 N = _ := x2
    have hpv := hp v x x1
    have I := ih (v + 1) g' (by omega) hg'
    unfold f_m_pivot_187
    rw [e1, ifn (by omega), x2']
    by_cases c : p v = true
    · rw [cn_t c] at I
      rw [ifp (hpv.mpr c)]
      exact I
    · rw [cn_f (by simpa using c)] at I
      rw [ifn (fun z => c (hpv.mp z))]
      exact I
/-- 16 or as many as there are -/
theorem OBk_16 (hI : Inv σ) {rb V : Nat → Int} (hrb : ∀ x, rb x = -5 ∨ (0 ≤ rb x ∧ rb x < σ 0 1)) (G : Int) (mine : Nat) : cn 16 (OBk σ rb V G mine) = cn (σ 0 1).toNat (OBk σ rb V G mine) := by
  have bh := hI.1.2.1
  have e : cn 16 (OBk σ rb V G mine) = cn ((σ 0 1).toNat + (16 - (σ 0 1).toNat)) (OBk σ rb V G mine) := by
    congr 1; omega
  have e2 : cn (16 - (σ 0 1).toNat) (fun v => OBk σ rb V G mine ((σ 0 1).toNat + v)) = cn (16 - (σ 0 1).toNat) (fun _ => false) := cn_congr fun v _ => OBk_f fun q => by
    obtain ⟨h, h1, h2, _⟩ := q.2
    have := voN_in hrb h1
    omega
  rw [e, cn_plus, e2, cn_no, Nat.add_zero]
/-- how often mine turns a motion -/
noncomputable def pivN (σ : Mm) (d : Int) (own sn : Nat → Int) (rb : Nat → Int) (f mine : Nat) : Nat := cn (2 ^ cn (σ 0 1).toNat (OBk σ rb (Vt σ d own sn f) (gd σ f d) mine)) (phS (OBk σ rb (Vt σ d own sn f) (gd σ f d) mine) (gBk σ rb (gd σ f d)) (bsS σ (voN σ rb) (Vt σ d own sn f) (σ 0 1).toNat) 16 (tf σ d own sn f + 1 - bsS σ (voN σ rb) (Vt σ d own sn f) (σ 0 1).toNat mine) (if 0 ≤ gd σ f d ∧ voN σ rb (gd σ f d).toNat = mine then sm 16 (fun b => if OBk σ rb (Vt σ d own sn f) (gd σ f d) mine b = true then bsS σ (voN σ rb) (Vt σ d own sn f) (σ 0 1).toNat b else 0) else tf σ d own sn f))
theorem tf_in (hI : Inv σ) (d : Int) (own sn : Nat → Int) (f : Nat) : 0 ≤ tf σ d own sn f ∧ tf σ d own sn f ≤ 15968016 := by
  have h1 := fi_in hI f (w := 0) (by decide) d
  have h2 := se_in hI f (w := 0) (Or.inl rfl) d
  have h3 := Tt_in hI d own sn f
  have h4 := h1.2.2 (by decide)
  have h5 := h2.2.2 rfl
  have m1 : 0 ≤ fi σ f 0 d * Tt σ d own sn f := Int.mul_nonneg h4 h3.1
  have m2 : fi σ f 0 d * Tt σ d own sn f ≤ 999 * 15984 := Int.mul_le_mul h1.2.1 h3.2 h3.1 (by decide)
  unfold tf
  generalize fi σ f 0 d * Tt σ d own sn f = P at m1 m2
  refine ⟨Int.ediv_nonneg m1 (by omega), ?_⟩
  have := Int.ediv_le_self (se σ f 0 d) m1
  omega
theorem e_S_turns64 (n : Nat) (hn : 3000 ≤ n) (hI : Inv σ) (hC : RelC M σ) {d : Int} {own sn : Nat → Int} {rb : Nat → Int} (hrb : ∀ x, rb x = -5 ∨ (0 ≤ rb x ∧ rb x < σ 0 1)) (h45 : ∀ h : Nat, (h : Int) < σ 0 1 → M 45 h = bk σ rb h) (hG : M 43 f = gd σ f d) (h44 : M 44 f = tf σ d own sn f) (h130 : ∀ h : Nat, (h : Int) < σ 0 1 → M (130 + f) h = Vt σ d own sn f h) (hf : (f : Int) < σ 0 1) {mine : Nat} (hm : mine < 16) {s0 : Int} (hs0 : (gd σ f d < 0 ∧ s0 = 0) ∨ ∃ g : Nat, gd σ f d = (g : Int) ∧ (g : Int) < σ 0 1 ∧ s0 = ish 1 (voN σ rb g)) : ∃ (z : Int) (M' : Mm), f_S_turns_64 n f mine s0 M = some (z, M') ∧ Fr cdC [52, 1411, 54, 55] M M' ∧ (exBk σ rb (Vt σ d own sn f) (gd σ f d) mine → z = (pivN σ d own sn rb f mine : Int)) ∧ (¬ exBk σ rb (Vt σ d own sn f) (gd σ f d) mine → z = 0) := by
  have bh := hI.1.2.1
  have hV := Vt_in hI d own sn f
  have hbs := bsS_in (σ := σ) (vo := voN σ rb) hV (k := (σ 0 1).toNat) (by omega)
  have htf := tf_in hI d own sn f
  have hO16 := OBk_16 hI hrb (V := Vt σ d own sn f) (gd σ f d) mine
  obtain ⟨v, M1, v1, v2, v3, v4, v5⟩ := e_S_sumBlocks n hn hI hC hrb h45 hV (f := f) (by omega) h130
  have hgb : ∀ b, b < 32 → bI s0 b = gBk σ rb (gd σ f d) b := fun b hb => by
    unfold gBk
    rcases hs0 with ⟨q1, q2⟩ | ⟨g, g1, g2, g3⟩
    · rw [q2, bI_0, decide_eq_false (show ¬ 0 ≤ gd σ f d by omega)]; rfl
    · have := voN_in hrb g2
      rw [g3, bI_bit (by omega), g1, Int.toNat_natCast, decide_eq_true (show (0 : Int) ≤ (g : Int) by omega), Bool.true_and, Bool.eq_iff_iff, decide_eq_true_eq, decide_eq_true_eq]
      exact ⟨fun z => z.symm, fun z => z.symm⟩
  have hthere : ∀ b, b < 32 → (bI (ior v s0) b = true ↔ exBk σ rb (Vt σ d own sn f) (gd σ f d) b) := fun b hb => by
    rw [bI_or, Bool.or_eq_true, v4 b, hgb b hb]
    unfold gBk
    rw [Bool.and_eq_true, decide_eq_true_eq, decide_eq_true_eq]
    constructor
    · rintro (⟨i, i1, i2, i3⟩ | ⟨q1, q2⟩)
      · exact ⟨i, i1, i2, Or.inl i3⟩
      · have := gd_in σ f d
        exact ⟨(gd σ f d).toNat, by omega, q2, Or.inr (by omega)⟩
    · rintro ⟨i, i1, i2, i3⟩
      rcases i3 with q | q
      · exact Or.inl ⟨i, i1, i2, q⟩
      · exact Or.inr ⟨by omega, by rw [q, Int.toNat_natCast]; exact i2⟩
  unfold f_S_turns_64
  rw [v1, bnd_mk, bit_I (by omega)]
  by_cases c : exBk σ rb (Vt σ d own sn f) (gd σ f d) mine
  · rw [ifp ((hthere mine (by omega)).mpr c), ifp (show (1 : Int) ≠ 0 by decide)]
    unfold pivN
    generalize hVe : Vt σ d own sn f = V at *
    generalize hse : bsS σ (voN σ rb) V (σ 0 1).toNat = s at *
    generalize hOe : OBk σ rb V (gd σ f d) mine = O at *
    generalize hgBe : gBk σ rb (gd σ f d) = gB at *
    have hx : ∀ b, b < 16 → bI (ian (ian (ior v s0) (ixo (ish 1 (mine : Int)) (-1))) (ixo s0 (-1))) b = (O b && !gB b) := fun b hb => by
      rw [bI_and, bI_del (by omega), bI_xor, bI_m1 (by omega), hgb b (by omega)]
      have e1 : (bI (ior v s0) b && decide (b ≠ mine)) = O b := by
        rw [Bool.eq_iff_iff, Bool.and_eq_true, decide_eq_true_eq, hthere b (by omega), ← hOe, OBk_t]
        exact And.comm
      rw [e1]
      cases gB b <;> rfl
    obtain ⟨M2, k1, k2, k3, k4, k5⟩ := e_S_listOthers n hn (M := M1) (s := s) (fun b _ => hbs b) v5 (ian (ian (ior v s0) (ixo (ish 1 (mine : Int)) (-1))) (ixo s0 (-1)))
    have hcn : ∀ b, b ≤ 16 → cn b (bI (ian (ian (ior v s0) (ixo (ish 1 (mine : Int)) (-1))) (ixo s0 (-1)))) = cn b (fun x => O x && !gB x) := fun b hb => cn_congr fun i hi => hx i (by omega)
    rw [hcn 16 (Nat.le_refl _)] at k3 k5
    have ha : ∀ b, b < 16 → (O b && !gB b) = true → M2 54 (cn b (fun x => O x && !gB x)) = s b := fun b hb hO => by
      rw [← hcn b (by omega)]; exact k4 b hb (by rw [hx b hb]; exact hO)
    have hm16 := cn_le (fun x => O x && !gB x) 16
    have fr : Fr cdC [52, 1411, 54, 55] M M2 := (v2.mono (by decide)).trans (k2.mono (by decide))
    have m52 : ∀ b, b < 16 → M2 52 b = s b := fun b hb => by rw [k2 52 b rfl]; exact v5 b hb
    have m43 : M2 43 f = gd σ f d := by rw [fr 43 f rfl]; exact hG
    have m44 : M2 44 f = tf σ d own sn f := by rw [fr 44 f rfl]; exact h44
    have hsm := hbs mine
    have ways : ∀ lo hi : Int, -1000000 ≤ lo → lo ≤ 50000000 → -1000000 ≤ hi → hi ≤ 50000000 → g_ways n 20 0 0 (M2 4 11) lo hi M2 = some ((wyS (M2 54) (cn 16 (fun x => O x && !gB x)) 0 lo hi : Int), M2) := fun lo hi h1 h2 h3 h4 => by
      rw [k3.1]
      exact e_S_ways n hm16 k3 k5 (cn 16 (fun x => O x && !gB x)) 20 0 0 lo hi (by omega) (by omega) (by omega) (by omega)
    have hfin : ∀ (lo hi lo' hi' : Int), lo' = lo - gmS O gB s 16 → hi' = hi - gmS O gB s 16 → wyS (M2 54) (cn 16 (fun x => O x && !gB x)) 0 lo' hi' = cn (2 ^ cn (σ 0 1).toNat O) (phS O gB s 16 lo hi) := fun lo hi lo' hi' h1 h2 => by
      rw [← hO16, ph_gw, gw_wy ha 16 lo hi (Nat.le_refl _), h1, h2]
    rw [k1, bnd_mk, ckp (by omega), Int.toNat_natCast, m44, m43]
    have nz : ∀ a : Nat, a < 16 → ish 1 (a : Int) ≠ 0 := fun a ha e => by
      have := bI_bit (k := a) (by omega) a
      rw [e, bI_0, decide_eq_true rfl] at this; cases this
    rcases hs0 with ⟨q1, q2⟩ | ⟨g, g1, g2, g3⟩
    · have hgm : gmS O gB s 16 = 0 := sm_zero fun b _ => by
        have : gB b = false := by rw [← hgBe]; unfold gBk; rw [decide_eq_false (by omega)]; rfl
        rw [this, Bool.and_false, ifn (show ¬ false = true by decide)]
      rw [q2, ifp (show (0 : Int) ≠ ish 1 (mine : Int) from fun z => nz mine hm z.symm), ifn (show ¬ (0 : Int) ≠ 0 by decide)]
      unfold f_S_turns_189
      rw [ckp (by omega), Int.toNat_natCast, m52 mine hm, w32_s (x := tf σ d own sn f - 0) (by omega) (by omega), w32_s (x := tf σ d own sn f - 0 + 1) (by omega) (by omega), w32_s (by omega) (by omega), ways _ _ (by omega) (by omega) (by omega) (by omega), bnd_mk]
      refine ⟨_, M2, rfl, fr, fun _ => ?_, fun w => absurd c w⟩
      rw [ifn (show ¬ (0 ≤ gd σ f d ∧ voN σ rb (gd σ f d).toNat = mine) by omega)]
      exact congrArg _ (hfin _ _ _ _ (by omega) (by omega))
    · have hv := voN_in hrb g2
      have hgBv : ∀ b, gB b = decide (voN σ rb g = b) := fun b => by
        rw [← hgBe]; unfold gBk; rw [g1, Int.toNat_natCast, decide_eq_true (show (0 : Int) ≤ (g : Int) by omega), Bool.true_and]
      have hbit : ∀ a b : Nat, a < 16 → b < 16 → (ish 1 (a : Int) = ish 1 (b : Int) ↔ a = b) := fun a b ha hb => ⟨fun e => by
        have := bI_bit (k := a) (by omega) a
        rw [e, bI_bit (by omega), decide_eq_true rfl] at this
        exact of_decide_eq_true this, fun e => by rw [e]⟩
      by_cases c2 : voN σ rb g = mine
      · have hOm : O mine = false := by rw [← hOe]; exact OBk_f fun w => w.1 rfl
        have hgm : gmS O gB s 16 = 0 := sm_zero fun b _ => by
          rw [hgBv b]
          by_cases z : voN σ rb g = b
          · rw [← z, c2, hOm, Bool.false_and, ifn (show ¬ false = true by decide)]
          · rw [decide_eq_false z, Bool.and_false, ifn (show ¬ false = true by decide)]
        have hrs : M2 55 0 = sm 16 (fun b => if O b = true then s b else 0) := by
          rw [k3.2 0 (Nat.zero_le _), Nat.sub_zero, rs_sm ha 16 (Nat.le_refl _)]
          refine sm_congr fun b _ => ?_
          rw [hgBv b]
          by_cases z : voN σ rb g = b
          · rw [← z, c2, hOm]; rfl
          · rw [decide_eq_false z]; cases O b <;> rfl
        have hrs2 := rsS_ub (a := M2 54) (B := 15984) (r := cn 16 (fun x => O x && !gB x)) (k := 0) fun i _ hi => (k5 i (by omega)).2
        have hrs3 := rsS_nn (a := M2 54) (r := cn 16 (fun x => O x && !gB x)) (k := 0) fun i hi => (k5 i (by omega)).1
        have hrs4 : ((cn 16 (fun x => O x && !gB x) : Nat) : Int) * 15984 ≤ 16 * 15984 := Int.mul_le_mul_of_nonneg_right (by omega) (by decide)
        have hrs5 : M2 55 0 = rsS (M2 54) (cn 16 (fun x => O x && !gB x)) 0 := by rw [k3.2 0 (Nat.zero_le _), Nat.sub_zero]
        rw [g3, c2, ifn (fun z => z rfl), ckp (by omega), Int.toNat_natCast, m52 mine hm, w32_s (x := tf σ d own sn f + 1) (by omega) (by omega), w32_s (by omega) (by omega), show (0 : Int).toNat = 0 from rfl, ways _ _ (by omega) (by omega) (by omega) (by omega), bnd_mk]
        refine ⟨_, M2, rfl, fr, fun _ => ?_, fun w => absurd c w⟩
        rw [ifp (show 0 ≤ gd σ f d ∧ voN σ rb (gd σ f d).toNat = mine from ⟨by omega, by rw [g1, Int.toNat_natCast]; exact c2⟩), ← hrs]
        exact congrArg _ (hfin _ _ _ _ (by omega) (by omega))
      · have hOg : O (voN σ rb g) = true := by rw [← hOe]; exact OBk_t.mpr ⟨c2, g, g2, rfl, Or.inr g1⟩
        have hgm : gmS O gB s 16 = s (voN σ rb g) := by
          have e1 : gmS O gB s 16 = sm 16 (fun b => if b = voN σ rb g then s (voN σ rb g) else 0) := sm_congr fun b _ => by
            rw [hgBv b]
            by_cases z : voN σ rb g = b
            · rw [decide_eq_true z, ← z, hOg, ifp (by decide), ifp rfl]
            · rw [decide_eq_false z, Bool.and_false, ifn (show ¬ false = true by decide), ifn (fun w => z w.symm)]
          rw [e1, sm_pt _ _ (by omega)]
        have hsg := hbs (voN σ rb g)
        have h45' : ∀ h : Nat, (h : Int) < σ 0 1 → M2 45 h = bk σ rb h := fun h hh => by rw [fr 45 h rfl]; exact h45 h hh
        rw [g3, ifp (show ish 1 (voN σ rb g : Int) ≠ ish 1 (mine : Int) from fun z => c2 ((hbit _ _ (by omega) hm).mp z)), ifp (show ish 1 (voN σ rb g : Int) ≠ 0 from nz _ (by omega)), ckp (by omega), g1, e_U_voice n hrb h45' g2 (by omega), bnd_mk, ckp (by omega), Int.toNat_natCast, m52 _ (by omega)]
        unfold f_S_turns_189
        rw [ckp (by omega), Int.toNat_natCast, m52 mine hm, w32_s (x := tf σ d own sn f - s (voN σ rb g)) (by omega) (by omega), w32_s (x := tf σ d own sn f - s (voN σ rb g) + 1) (by omega) (by omega), w32_s (by omega) (by omega), ways _ _ (by omega) (by omega) (by omega) (by omega), bnd_mk]
        refine ⟨_, M2, rfl, fr, fun _ => ?_, fun w => absurd c (by rw [g1] at *; exact w)⟩
        try rw [g1]
        rw [ifn (show ¬ (0 ≤ (g : Int) ∧ voN σ rb (g : Int).toNat = mine) from fun z => c2 (by rw [Int.toNat_natCast] at z; exact z.2))]
        exact congrArg _ (hfin _ _ _ _ (by omega) (by omega))
  · rw [ifn (fun z => c ((hthere mine (by omega)).mp z)), ifn (show ¬ (0 : Int) ≠ 0 by decide)]
    exact ⟨0, M1, rfl, v2.mono (by decide), fun w => absurd w c, fun _ => rfl⟩
theorem q_pivot (n : Nat) (hn : 70000 ≤ n) (fi h : Int) (hJ : J M N) : Sim (f_W_pivot n fi h M) (f_m_pivot n fi h N) := by
  have hJ0 := hJ
  obtain ⟨σ, hI, hA, hC⟩ := hJ
  have b := hI.1.2.1
  have bt := hI.1.1
  have a1 : N 0 1 = σ 0 1 := hA 0 1 rfl
  unfold f_W_pivot f_m_pivot
  simp only [e_R_isFirm n M fi (by rw [hC.1.2.1]; exact b.2), e_m_isFirm n N fi (by rw [a1]; exact b), e_R_isHolder, e_m_isHolder n N _ (show 0 ≤ N 0 1 ∧ N 0 1 ≤ 16 by rw [a1]; exact b), bnd_mk, a1, hC.1.2.1, hC.1.2.2.2.2.2.1, hA.row (k := 1) (fun _ => rfl)]
  by_cases c : 0 ≤ fi ∧ fi < σ 0 1 ∧ σ 1 fi.toNat = 1
  · simp only [ifp c, i1]
    by_cases c2 : 0 ≤ h ∧ h < σ 0 1
    · simp only [ifp c2, n1]
      obtain ⟨f, rfl⟩ := nat_of c.1
      obtain ⟨h0, rfl⟩ := nat_of c2.1
      have hF : isF (σ 1) f = true := isF_of (by have := c.2.2; rw [Int.toNat_natCast] at this; exact this)
      obtain ⟨M1, M2, N1, e1, e2, e3, hJ', hA1, hC2, hB, hR, hL, hT, hRT, hok, -⟩ := both_least n (by omega) hI hA hC bt
      have hrb : ∀ x, (lstS σ (σ 0 0) (fun s => ow σ s (σ 0 0)) (fun s => si σ s (σ 0 0))).1 x = -5 ∨ (0 ≤ (lstS σ (σ 0 0) (fun s => ow σ s (σ 0 0)) (fun s => si σ s (σ 0 0))).1 x ∧ (lstS σ (σ 0 0) (fun s => ow σ s (σ 0 0)) (fun s => si σ s (σ 0 0))).1 x < σ 0 1) := fun x => (hok.2 x).imp id fun q => ⟨q.2.2.1, q.2.2.2.1⟩
      generalize lstS σ (σ 0 0) (fun s => ow σ s (σ 0 0)) (fun s => si σ s (σ 0 0)) = L at hB hR hok hrb
      have hmine := voN_in hrb c2.2
      have hGd := gd_in σ f (σ 0 0)
      have hLf := (hL.2 f c.2.1 hF).2
      -- the class
      have hturn : ∀ s0 : Int, ((gd σ f (σ 0 0) < 0 ∧ s0 = 0) ∨ ∃ g : Nat, gd σ f (σ 0 0) = (g : Int) ∧ (g : Int) < σ 0 1 ∧ s0 = ish 1 (voN σ L.1 g)) → ∃ (z : Int) (M' : Mm), f_S_turns_64 n f (voN σ L.1 h0) s0 M2 = some (z, M') ∧ Fr cdC [52, 1411, 54, 55] M2 M' ∧ (exBk σ L.1 (Vt σ (σ 0 0) (fun s => ow σ s (σ 0 0)) (fun s => si σ s (σ 0 0)) f) (gd σ f (σ 0 0)) (voN σ L.1 h0) → z = (pivN σ (σ 0 0) (fun s => ow σ s (σ 0 0)) (fun s => si σ s (σ 0 0)) L.1 f (voN σ L.1 h0) : Int)) ∧ (¬ exBk σ L.1 (Vt σ (σ 0 0) (fun s => ow σ s (σ 0 0)) (fun s => si σ s (σ 0 0)) f) (gd σ f (σ 0 0)) (voN σ L.1 h0) → z = 0) := fun s0 hs0 => e_S_turns64 n (by omega) hI hC2 hrb hB.1 hLf (hT f c.2.1 hF).2 (hT f c.2.1 hF).1 c.2.1 (by omega) hs0
      have hclass : ∃ (z : Int) (M' : Mm), f_S_turns n f h0 M = some (z, M') ∧ Fr cdC [52, 1411, 54, 55] M2 M' ∧ (exBk σ L.1 (Vt σ (σ 0 0) (fun s => ow σ s (σ 0 0)) (fun s => si σ s (σ 0 0)) f) (gd σ f (σ 0 0)) (voN σ L.1 h0) → z = (pivN σ (σ 0 0) (fun s => ow σ s (σ 0 0)) (fun s => si σ s (σ 0 0)) L.1 f (voN σ L.1 h0) : Int)) ∧ (¬ exBk σ L.1 (Vt σ (σ 0 0) (fun s => ow σ s (σ 0 0)) (fun s => si σ s (σ 0 0)) f) (gd σ f (σ 0 0)) (voN σ L.1 h0) → z = 0) := by
        unfold f_S_turns
        rw [hC.1.1, e1, bnd_mk, e2, bnd_mk, e_U_voice n hrb hB.1 c2.2 b.2, bnd_mk, ckp (by omega), Int.toNat_natCast, hLf]
        rcases hGd with q | q
        · rw [ifn (by omega)]
          exact hturn 0 (Or.inl ⟨by omega, rfl⟩)
        · obtain ⟨g, hg⟩ := nat_of q.1
          rw [ifp q.1, ckp (by omega), hg, e_U_voice n hrb hB.1 (h := g) (by omega) b.2, bnd_mk]
          have := hturn _ (Or.inr ⟨g, hg, by omega, rfl⟩)
          rw [hg] at this
          exact this
      -- the reference
      have hRTf := hRT f c.2.1 hF
      have go28 : ∀ (k j g : Nat) (N : Mm), j + k = 16 → k < g → (∀ o, o < j → N 36 o = 0) → ∃ N', lp_m_pivot_28 n g f h0 j N = lp_m_pivot_49 n n f h0 0 N' ∧ Fr cdR [36] N N' ∧ ∀ o, o < 16 → N' 36 o = 0 := by
        intro k
        induction k with
        | zero =>
          intro j g N hj hg h0'
          obtain ⟨g', rfl, _⟩ := f_pos hg
          show ∃ N', f_m_pivot_28 n (lp_m_pivot_28 n g') _ _ j N = _ ∧ _
          unfold f_m_pivot_28
          rw [ifp (by omega)]
          exact ⟨N, rfl, Fr.rf, fun o ho => h0' o (by omega)⟩
        | succ k ih =>
          intro j g N hj hg h0'
          obtain ⟨g', rfl, hg'⟩ := f_pos hg
          show ∃ N', f_m_pivot_28 n (lp_m_pivot_28 n g') _ _ j N = _ ∧ _
          unfold f_m_pivot_28
          rw [ifn (by omega), ckp (by omega), w_succ (by omega), Int.toNat_natCast]
          have fr : Fr cdR [36] N (mset N 36 j 0) := Fr.rf.set rfl
          obtain ⟨N2, k1, k2, k3⟩ := ih (j + 1) g' (mset N 36 j 0) (by omega) hg' (fun o ho => by
            by_cases z : o = j
            · rw [z, mg_s]
            · rw [mg_j _ _ _ z]; exact h0' o (by omega))
          exact ⟨N2, k1, fr.trans k2, k3⟩
      obtain ⟨N2, n1, n2, n3⟩ := go28 16 0 n N1 rfl (by omega) (fun o ho => absurd ho (Nat.not_lt_zero o))
      have n1' : lp_m_pivot_28 n n f h0 0 N1 = _ := n1
      have rtf : ∀ {N N' : Mm} {L : List Nat}, RTx N σ (σ 0 0) (fun s => ow σ s (σ 0 0)) (fun s => si σ s (σ 0 0)) f → Fr cdR L N N' → ([24, 25, 26, 27, 28].all fun x => !L.elem x) = true → RTx N' σ (σ 0 0) (fun s => ow σ s (σ 0 0)) (fun s => si σ s (σ 0 0)) f := fun {N N' L} h fr hd => by
        have g := List.all_eq_true.mp hd
        have e24 : L.elem 24 = false := by simpa using g 24 (by decide)
        have e25 : L.elem 25 = false := by simpa using g 25 (by decide)
        have e26 : L.elem 26 = false := by simpa using g 26 (by decide)
        have e27 : L.elem 27 = false := by simpa using g 27 (by decide)
        have e28 : L.elem 28 = false := by simpa using g 28 (by decide)
        exact ⟨(fr 26 f e26).trans h.1, (fr 27 f e27).trans h.2.1, (fr 28 f e28).trans h.2.2.1, (fr 25 f e25).trans h.2.2.2.1, fun y hy => (fr 24 _ e24).trans (h.2.2.2.2 y hy)⟩
      have hRT2 := rtf hRTf n2 rfl
      have hA2 := hA1.fr n2 (by decide)
      have hR2 := hR.1.fr n2 rfl
      obtain ⟨N3, p1, p2, p3⟩ := l_m_pv49 n (by omega) hI (V := Vt σ (σ 0 0) (fun s => ow σ s (σ 0 0)) (fun s => si σ s (σ 0 0)) f) (G := gd σ f (σ 0 0)) hrb (f := f) (h0 := h0) (by omega) c2.2 (σ 0 1).toNat 0 n N2 (by omega) (by omega) hA2 hR2 hRT2.2.2.2.2 hRT2.2.2.1 (fun b hb => by
        rw [n3 b hb]
        exact ⟨ir_0, fun i => by rw [bI_0]; exact ⟨fun q => (by cases q), fun q => absurd q.1 (Nat.not_lt_zero i)⟩⟩)
      have p1' : lp_m_pivot_49 n n f h0 0 N2 = _ := p1
      have hA3 := hA2.fr p2 (by decide)
      have hR3 := hR2.fr p2 rfl
      have hz := BLN_0 hI p3 (b := voN σ L.1 h0) (by omega)
      obtain ⟨z, M3, z1, z2, z3, z4⟩ := hclass
      have hC3 := hC2.fr z2 (by decide)
      rw [z1, bnd_mk, hA 0 0 rfl, e3, bnd_mk, n1', p1']
      by_cases cE : exBk σ L.1 (Vt σ (σ 0 0) (fun s => ow σ s (σ 0 0)) (fun s => si σ s (σ 0 0)) f) (gd σ f (σ 0 0)) (voN σ L.1 h0)
      · rw [ifp (show N3 36 (voN σ L.1 h0) ≠ 0 from fun w => (hz.mp w) cE), z3 cE]
        obtain ⟨N4, r1, r2, r3⟩ := l_m_pv126 n (by omega) hI (V := Vt σ (σ 0 0) (fun s => ow σ s (σ 0 0)) (fun s => si σ s (σ 0 0)) f) (G := gd σ f (σ 0 0)) hrb f c2.2 (N3 36 (voN σ L.1 h0)) (σ 0 1).toNat 0 n N3 (by omega) (by omega) hA3 hR3 p3 (fun b' h => absurd h (Nat.not_lt_zero b'))
        have r1' : lp_m_pivot_126 n n f h0 (N3 36 (voN σ L.1 h0)) 0 0 N3 = _ := r1
        have e36 : N4 36 = N3 36 := r2.row (k := 36) (fun _ => rfl)
        have hA4 := hA3.fr r2 (by decide)
        have hRT4 := rtf (rtf hRT2 p2 rfl) r2 rfl
        have hB4 : BLN (N4 36) σ L.1 (Vt σ (σ 0 0) (fun s => ow σ s (σ 0 0)) (fun s => si σ s (σ 0 0)) f) (gd σ f (σ 0 0)) := by rw [e36]; exact p3
        have fin := l_m_pv187 n hn hI hA4 hrb c.2.1 hRT4 hB4 (mine := voN σ L.1 h0) (by omega) r3 (p := phS (OBk σ L.1 (Vt σ (σ 0 0) (fun s => ow σ s (σ 0 0)) (fun s => si σ s (σ 0 0)) f) (gd σ f (σ 0 0)) (voN σ L.1 h0)) (gBk σ L.1 (gd σ f (σ 0 0))) (bsS σ (voN σ L.1) (Vt σ (σ 0 0) (fun s => ow σ s (σ 0 0)) (fun s => si σ s (σ 0 0)) f) (σ 0 1).toNat) 16 (tf σ (σ 0 0) (fun s => ow σ s (σ 0 0)) (fun s => si σ s (σ 0 0)) f + 1 - bsS σ (voN σ L.1) (Vt σ (σ 0 0) (fun s => ow σ s (σ 0 0)) (fun s => si σ s (σ 0 0)) f) (σ 0 1).toNat (voN σ L.1 h0)) (if 0 ≤ gd σ f (σ 0 0) ∧ voN σ L.1 (gd σ f (σ 0 0)).toNat = voN σ L.1 h0 then sm 16 (fun b => if OBk σ L.1 (Vt σ (σ 0 0) (fun s => ow σ s (σ 0 0)) (fun s => si σ s (σ 0 0)) f) (gd σ f (σ 0 0)) (voN σ L.1 h0) b = true then bsS σ (voN σ L.1) (Vt σ (σ 0 0) (fun s => ow σ s (σ 0 0)) (fun s => si σ s (σ 0 0)) f) (σ 0 1).toNat b else 0) else tf σ (σ 0 0) (fun s => ow σ s (σ 0 0)) (fun s => si σ s (σ 0 0)) f)) (fun v x hx => turn_iff hI hrb hx (fun i => (hB4 _ (by omega)).2 i)) (2 ^ cn (σ 0 1).toNat (OBk σ L.1 (Vt σ (σ 0 0) (fun s => ow σ s (σ 0 0)) (fun s => si σ s (σ 0 0)) f) (gd σ f (σ 0 0)) (voN σ L.1 h0))) 0 n (by omega) (by
          have hle := cn_le (OBk σ L.1 (Vt σ (σ 0 0) (fun s => ow σ s (σ 0 0)) (fun s => si σ s (σ 0 0)) f) (gd σ f (σ 0 0)) (voN σ L.1 h0)) (σ 0 1).toNat
          have h6 : (2 : Nat) ^ cn (σ 0 1).toNat (OBk σ L.1 (Vt σ (σ 0 0) (fun s => ow σ s (σ 0 0)) (fun s => si σ s (σ 0 0)) f) (gd σ f (σ 0 0)) (voN σ L.1 h0)) ≤ 2 ^ 16 := Nat.pow_le_pow_right (by decide) (by omega)
          omega)
        rw [e36] at fin
        have fin' : lp_m_pivot_187 n n f (N3 36 (voN σ L.1 h0)) (cn (σ 0 1).toNat (OBk σ L.1 (Vt σ (σ 0 0) (fun s => ow σ s (σ 0 0)) (fun s => si σ s (σ 0 0)) f) (gd σ f (σ 0 0)) (voN σ L.1 h0))) 0 0 N4 = _ := fin
        rw [r1', fin']
        exact Sim.same ⟨σ, hI, hA4, hC3⟩ _
      · rw [ifn (show ¬ N3 36 (voN σ L.1 h0) ≠ 0 from fun w => w (hz.mpr cE)), z4 cE]
        exact Sim.same ⟨σ, hI, hA3, hC3⟩ _
    · simp only [ifn c2, n0]; exact Sim.same hJ0 _
  · simp only [ifn c, i0]; exact Sim.same hJ0 _
end
