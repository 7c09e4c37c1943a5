/-! all(..): the two searches together; the call. -/
section
variable {σ : Mm} {M N : Mm} {d : Int} {own sn : Nat → Int}
theorem bpow (hF5 : cFN σ ≤ 5) (hR4 : cRN σ ≤ 4) {j : Nat} (hj : j ≤ cFN σ) : (cRN σ + 1) ^ j ≤ 3125 := by
  have h1 := Nat.pow_le_pow_left (show cRN σ + 1 ≤ 5 by omega) j
  have h2 := Nat.pow_le_pow_right (show 0 < 5 by decide) (show j ≤ 5 by omega)
  have h3 : (5 : Nat) ^ 5 = 3125 := by decide
  omega
theorem l_S_pow (n : Nat) (hI : Inv σ) (hC : RelC M σ) (hF5 : cFN σ ≤ 5) (hR4 : cRN σ ≤ 4) (x1 x2 : Int) : ∀ (k j g : Nat), j + k = cFN σ → k < g → lp_S_fitting_9 n g x1 x2 (((cRN σ + 1) ^ j : Nat) : Int) j M = lp_S_fitting_45 n n x1 x2 (((cRN σ + 1) ^ cFN σ : Nat) : Int) 0 0 M := by
  have m12 : M 1 2 = (cFN σ : Int) := by rw [hC.1.2.2.1, hI.1.2.2.2.2.2.1]; rfl
  have m13 : M 1 3 = (cRN σ : Int) := hC.1.2.2.2.1
  intro k
  induction k with
  | zero =>
    intro j g hj hg
    obtain ⟨g', rfl, _⟩ := f_pos hg
    have e : j = cFN σ := by omega
    subst e
    show f_S_fitting_9 n (lp_S_fitting_9 n g') _ _ _ _ M = _
    unfold f_S_fitting_9
    rw [ifp (by rw [m12]; omega)]
  | succ k ih =>
    intro j g hj hg
    obtain ⟨g', rfl, hg'⟩ := f_pos hg
    have b1 := bpow hF5 hR4 (show j ≤ cFN σ by omega)
    have b2 := bpow hF5 hR4 (show j + 1 ≤ cFN σ by omega)
    have e : ((((cRN σ + 1) ^ j : Nat)) : Int) * ((cRN σ + 1 : Nat) : Int) = (((cRN σ + 1) ^ (j + 1) : Nat) : Int) := by rw [Nat.pow_succ, Int.natCast_mul]
    show f_S_fitting_9 n (lp_S_fitting_9 n g') _ _ _ _ M = _
    unfold f_S_fitting_9
    rw [ifn (by rw [m12]; omega), m13, w_succ (by omega), e, w32_s (by omega) (by omega), w_succ (by omega)]
    exact ih (j + 1) g' (by omega) hg'
theorem l_m_pow (n : Nat) (hI : Inv σ) (hA : AgR N σ) (hS : LSN N σ) (hF5 : cFN σ ≤ 5) (hR4 : cRN σ ≤ 4) (x2 x3 : Int) : ∀ (k j g : Nat), j + k = cFN σ → k < g → lp_m_all_61 n g x2 x3 (((cRN σ + 1) ^ j : Nat) : Int) j N = lp_m_all_93 n n x2 x3 (((cRN σ + 1) ^ cFN σ : Nat) : Int) 0 0 N := by
  have m12 : N 0 2 = (cFN σ : Int) := by rw [hA 0 2 rfl, hI.1.2.2.2.2.2.1]; rfl
  intro k
  induction k with
  | zero =>
    intro j g hj hg
    obtain ⟨g', rfl, _⟩ := f_pos hg
    have e : j = cFN σ := by omega
    subst e
    show f_m_all_61 n (lp_m_all_61 n g') _ _ _ _ N = _
    unfold f_m_all_61
    rw [ifp (by rw [m12]; omega)]
  | succ k ih =>
    intro j g hj hg
    obtain ⟨g', rfl, hg'⟩ := f_pos hg
    have b1 := bpow hF5 hR4 (show j ≤ cFN σ by omega)
    have b2 := bpow hF5 hR4 (show j + 1 ≤ cFN σ by omega)
    have e : ((((cRN σ + 1) ^ j : Nat)) : Int) * ((cRN σ + 1 : Nat) : Int) = (((cRN σ + 1) ^ (j + 1) : Nat) : Int) := by rw [Nat.pow_succ, Int.natCast_mul]
    show f_m_all_61 n (lp_m_all_61 n g') _ _ _ _ N = _
    unfold f_m_all_61
    rw [ifn (by rw [m12]; omega), hS.1, w_succ (by omega), e, w32_s (by omega) (by omega), w_succ (by omega)]
    exact ih (j + 1) g' (by omega) hg'
theorem CARS_fr {M M' : Mm} {L : List Nat} (h : CARS M σ d own sn) (hF5 : cFN σ ≤ 5) (f : Fr cdC L M M') (hL : ([170, 171, 172, 173, 174].all fun x => !L.elem x) = true) : CARS M' σ d own sn := by
  intro x hx hF y hy hU i hi
  have hlt : cn x (isF (σ 1)) < cFN σ := cn_lt (show x < (σ 0 1).toNat by omega) hF
  have g := List.all_eq_true.mp hL
  have hm : ∀ a, a < 5 → 170 + a ∈ [170, 171, 172, 173, 174] := by decide
  have er : M' (170 + cn x (isF (σ 1))) (cn y (isU (σ 1) (σ 2))) = M (170 + cn x (isF (σ 1))) (cn y (isU (σ 1) (σ 2))) := by
    refine f _ _ ?_
    have e : cdC (170 + cn x (isF (σ 1))) (cn y (isU (σ 1) (σ 2))) = 170 + cn x (isF (σ 1)) := by unfold cdC; rw [ifn (by omega)]
    rw [e]
    simpa using g (170 + cn x (isF (σ 1))) (hm _ (by omega))
  rw [er]
  exact h x hx hF y hy hU i hi
theorem both_rows (n : Nat) (hn : 4000 ≤ n) (hI : Inv σ) (hF5 : cFN σ ≤ 5) (hR4 : cRN σ ≤ 4) (x1 : Int) {T : Nat} (bp : T ≤ 3125) {x : Nat} (hx : (x : Int) < σ 0 1) (hF : isF (σ 1) x = true) : ∀ (k v g1 g2 : Nat) (c : Nat) (M N : Mm), v + k = T → k < g1 → k < g2 → c ≤ v → RelC M σ → CARS M σ d own sn → AgR N σ → LSN N σ → RT N σ d own sn → (∀ y : Nat, y < 16 → ¬ ((y : Int) < σ 0 1 ∧ isF (σ 1) y = true) → N 29 y = -1) → ∃ z M' N', lp_S_fitting_45 n g1 x1 x (T : Int) c v M = some (z, M') ∧ lp_m_all_93 n g2 x1 x (T : Int) c v N = some (z, N') ∧ RelC M' σ ∧ AgR N' σ := by
  have bh := hI.1.2.1
  intro k
  induction k with
  | zero =>
    intro v g1 g2 c M N hv h1 h2 hc hC hK hA hS hT h29
    obtain ⟨g1', rfl, _⟩ := f_pos h1
    obtain ⟨g2', rfl, _⟩ := f_pos h2
    show ∃ z M' N', f_S_fitting_45 n (lp_S_fitting_45 n g1') _ _ _ _ _ M = _ ∧ f_m_all_93 n (lp_m_all_93 n g2') _ _ _ _ _ N = _ ∧ _
    unfold f_S_fitting_45 f_m_all_93
    rw [ifp (show (T : Int) ≤ (v : Int) by omega), ifp (show (T : Int) ≤ (v : Int) by omega)]
    by_cases e : x1 ≠ -1
    · rw [ifp e, ifp e]; exact ⟨_, _, _, rfl, rfl, hC, hA⟩
    · rw [ifn e, ifn e]; exact ⟨_, _, _, rfl, rfl, hC, hA⟩
  | succ k ih =>
    intro v g1 g2 c M N hv h1 h2 hc hC hK hA hS hT h29
    obtain ⟨g1', rfl, h1'⟩ := f_pos h1
    obtain ⟨g2', rfl, h2'⟩ := f_pos h2
    show ∃ z M' N', f_S_fitting_45 n (lp_S_fitting_45 n g1') _ _ _ _ _ M = _ ∧ f_m_all_93 n (lp_m_all_93 n g2') _ _ _ _ _ N = _ ∧ _
    obtain ⟨M1, p1, p2, p3⟩ := e_S_setRow n (by omega) hI hC hF5 hR4 v (by omega)
    have hC1 := hC.fr p2 (by decide)
    have hK1 := CARS_fr hK hF5 p2 (by decide)
    obtain ⟨w, w1, w2⟩ := e_S_rowFits n (by omega) hI hC1 hF5 hR4 hK1 p3
    have m02 : N 0 2 = (cFN σ : Int) := by rw [hA 0 2 rfl, hI.1.2.2.2.2.2.1]; rfl
    obtain ⟨N1, g3, q1, q2, q3⟩ := l_m_all112 n hI (lp_m_all_93 n g2') x1 x (T : Int) c v (by omega) (cFN σ) 0 n N (by omega) (by omega) hA hS h29 (fun y hy hFy hle => by
      have : cn y (isF (σ 1)) < cFN σ := cn_lt (show y < (σ 0 1).toNat by omega) hFy
      omega)
    have q1' : lp_m_all_112 n (lp_m_all_93 n g2') n x1 x (T : Int) c v v ((cFN σ : Int) - 1) N = _ := q1
    have hA1 := hA.fr q2 (by decide)
    have hS1 := hS.fr q2 rfl rfl rfl
    have hT1 := hT.fr q2 (by decide)
    obtain ⟨u, u1, u2⟩ := e_m_fits n (by omega) hI hA1 hS1 q3 (rowB_in σ v) hT1
    have h29' : ∀ y : Nat, y < 16 → ¬ ((y : Int) < σ 0 1 ∧ isF (σ 1) y = true) → N1 29 y = -1 := fun y hy hn' => by
      rw [q3 y hy]
      have : rowB σ v y = -5 := by unfold rowB; rw [ifn (fun z => hn' ⟨z.1, z.2.1⟩)]
      rw [this]; rfl
    unfold f_S_fitting_45 f_m_all_93 f_S_fitting_79
    rw [ifn (show ¬ (T : Int) ≤ (v : Int) by omega), ifn (show ¬ (T : Int) ≤ (v : Int) by omega), m02, w_succ (show v < 2000000000 by omega), w32_s (x := (cFN σ : Int) - 1) (by omega) (by omega), q1', p1, bnd_mk, w1, bnd_mk]
    unfold f_m_all_112 f_m_all_215
    rw [ifp (show (-1 : Int) < 0 by decide), u1, bnd_mk]
    simp only [w_succ (show c < 2000000000 by omega), w_succ (show v < 2000000000 by omega)]
    by_cases cf : fitP σ d own sn (rowB σ v)
    · rw [ifn (w2.mpr cf), ifp (u2.mpr cf)]
      by_cases e : (c : Int) ≠ x1
      · rw [ifp e, ifp e]
        exact ih (v + 1) g1' g2' (c + 1) M1 N1 (by omega) h1' h2' (by omega) hC1 hK1 hA1 hS1 hT1 h29'
      · have h29x := q3 x (by omega)
        rw [ifn e, ifn e, e_S_rulerInRow n (by omega) hI hC1 hF5 hR4 p3 hx hF, bnd_mk, ckp (by omega), Int.toNat_natCast, h29x]
        rcases rowB_in σ v x with r | r
        · rw [r, ifn (show ¬ (0 : Int) ≤ (if (-5 : Int) < 0 then -1 else -5) by decide)]
          exact ⟨_, _, _, rfl, rfl, hC1, hA1⟩
        · rw [ifn (show ¬ rowB σ v x < 0 by omega), ifp r.1, ckp (by omega)]
          exact ⟨_, _, _, rfl, rfl, hC1, hA1⟩
    · rw [ifp (show w = 0 from Classical.byContradiction fun z => cf (w2.mp z)), ifn (fun z => cf (u2.mp z))]
      exact ih (v + 1) g1' g2' c M1 N1 (by omega) h1' h2' (by omega) hC1 hK1 hA1 hS1 hT1 h29'
theorem q_all (n : Nat) (hn : 4000 ≤ n) (d i f : Int) (hJ : J M N) : Sim (f_W_all n d i f M) (f_m_all n d i f N) := by
  have hJ0 := hJ
  obtain ⟨σ, hI, hA, hC⟩ := hJ
  have bh := hI.1.2.1
  have a1 : N 0 1 = σ 0 1 := hA 0 1 rfl
  unfold f_W_all f_m_all
  simp only [e_R_isFirm n M f (by rw [hC.1.2.1]; exact bh.2), e_m_isFirm n N f (by rw [a1]; exact bh), e_W_isDay, e_m_isDay, bnd_mk, a1, hC.1.2.1, hC.1.2.2.2.2.2.1, hA.row (k := 1) (fun _ => rfl)]
  by_cases c3 : 0 ≤ d ∧ d ≤ 999
  · simp only [ifp c3, i1]
    by_cases c : 0 ≤ f ∧ f < σ 0 1 ∧ σ 1 f.toNat = 1
    · simp only [ifp c, i1]
      by_cases ci : -1 ≤ i
      · obtain ⟨x, rfl⟩ := nat_of c.1
        have hF : isF (σ 1) x = true := isF_of (by have := c.2.2; rw [Int.toNat_natCast] at this; exact this)
        obtain ⟨N1, g1, g2, g3⟩ := e_m_listRulers n (by omega) hI hA
        have hA1 := hA.fr g2 (by decide)
        have hS1 : LSN N1 σ := g3
        have m02 : N1 0 2 = (cFN σ : Int) := by rw [hA1 0 2 rfl, hI.1.2.2.2.2.2.1]; rfl
        have m12 : M 1 2 = (cFN σ : Int) := by rw [hC.1.2.2.1, hI.1.2.2.2.2.2.1]; rfl
        have m13 : M 1 3 = (cRN σ : Int) := hC.1.2.2.2.1
        simp only [ifp ci, g1, bnd_mk, m02, m12, m13, hS1.1]
        by_cases h5 : (5 : Int) < (cFN σ : Int)
        · simp only [ifp h5]; exact Sim.same ⟨σ, hI, hA1, hC⟩ _
        · by_cases h4 : (cRN σ : Int) ≤ 4
          · have hF5 : cFN σ ≤ 5 := by omega
            have hR4 : cRN σ ≤ 4 := by omega
            obtain ⟨M1, p1, p2, p3, p4, p5⟩ := e_U_look n (by omega) hI hC c3
            have hC1 := hC.fr p2 (by decide)
            obtain ⟨M2, r1, r2, r3⟩ := e_U_tally n (by omega) hI hC1 p3 (okO_day hI d) p4
            have hC2 := hC1.fr r2 (by decide)
            obtain ⟨M3, s1, s2, s3⟩ := e_U_clear n (by omega) hI hC2 r3
            have hC3 := hC2.fr s2 (by decide)
            have hL3 := (p3.fr hI r2 (by decide)).fr hI s2 (by decide)
            have hT3 := r3.fr hI s2 (by decide)
            obtain ⟨M4, t1, t2, t3⟩ := l_S_lc16 n (by omega) hI hF5 hR4 (σ 0 1).toNat 0 n M3 (by omega) (by omega) hC3 hL3 hT3 s3 (fun x hx => absurd hx (Nat.not_lt_zero x))
            have t1' : lp_S_listCarrying_16 n n 0 M3 = _ := t1
            have hC4 := hC3.fr t2 (by decide)
            obtain ⟨N2, a2, b2, c2, d2⟩ := e_m_look n (by omega) hI hA1 c3
            have hA2 := hA1.fr b2 (by decide)
            have hS2 := hS1.fr b2 rfl rfl rfl
            obtain ⟨N3, a3, b3, c3', d3⟩ := e_m_nobodyRules n (by omega) N2
            have hA3 := hA2.fr b3 (by decide)
            have hS3 := hS2.fr b3 rfl rfl rfl
            have hT3' := c2.fr b3 (by decide)
            have bp := bpow hF5 hR4 (Nat.le_refl (cFN σ))
            obtain ⟨z, M5, N5, l1, l2, l3, l4⟩ := both_rows n hn hI hF5 hR4 i bp c.2.1 hF ((cRN σ + 1) ^ cFN σ) 0 n n 0 M4 N3 (by omega) (by omega) (by omega) (Nat.le_refl _) hC4 t3 hA3 hS3 hT3' (fun y hy _ => c3' y hy)
            have w1 := l_S_pow n hI hC4 hF5 hR4 i x (cFN σ) 0 n (by omega) (by omega)
            have w2 := l_m_pow n hI hA3 hS3 hF5 hR4 i x (cFN σ) 0 n (by omega) (by omega)
            have w1' : lp_S_fitting_9 n n i x 1 0 M4 = _ := w1.trans l1
            have w2' : lp_m_all_61 n n i x 1 0 N3 = _ := w2.trans l2
            have ef : f_S_fitting n i x M1 = some (z, M5) := by
              unfold f_S_fitting f_S_listCarrying
              rw [r1, bnd_mk, s1, bnd_mk, t1', bnd_mk, w1']
            simp only [ifn h5, ifp h4, p1, bnd_mk, ef, a2, a3, w2']
            exact Sim.same ⟨σ, hI, l4, l3⟩ _
          · simp only [ifn h5, ifn h4]; exact Sim.same ⟨σ, hI, hA1, hC⟩ _
      · simp only [ifn ci]; exact Sim.same hJ0 _
    · simp only [ifn c, i0]; exact Sim.same hJ0 _
  · simp only [ifn c3, i0]; exact Sim.same hJ0 _
end
