/-! worth(..): the reference's rows put; the call. -/
section
variable {σ : Mm} {M N : Mm}
theorem l_m_pr86 (n : Nat) (hn : 3000 ≤ n) (hI : Inv σ) {nn : Nat} (hnn : nn ≤ 7) {o : Nat → Nat} (hL : LST σ nn o) {hld : Nat} (hh : (hld : Int) < σ 0 1) (hFh : isF (σ 1) hld = false) : ∀ (r k g : Nat) (N : Mm), k + r = nn → r < g → AgR N σ → SLdR N σ nn o → (∀ s : Nat, (s : Int) < σ 0 3 → N 22 s = (Wh σ s (σ 0 0)).1) → (∀ k' j, k' < k → j < nn + 1 → N 33 (8 * k' + j) = tdy (AMx σ nn o hld k') (nn + 1) j) → (∀ k' j, k ≤ k' → k' < nn → j < nn + 1 → N 33 (8 * k' + j) = 0) → ∃ N', lp_m_putRows_86 n g hld k N = some (0, N') ∧ Fr cdR [33] N N' ∧ ∀ k' j, k' < nn → j < nn + 1 → N' 33 (8 * k' + j) = tdy (AMx σ nn o hld k') (nn + 1) j := by
  have b1 := hI.2.1.1
  intro r
  induction r with
  | zero =>
    intro k g N hk hg hA hS hW hP h0
    obtain ⟨g', rfl, _⟩ := f_pos hg
    show ∃ N', f_m_putRows_86 n (lp_m_putRows_86 n g') _ _ N = _ ∧ _
    unfold f_m_putRows_86
    rw [ifp (by rw [hS.1]; omega)]
    exact ⟨N, rfl, Fr.rf, fun k' j h1 h2 => hP k' j (by omega) h2⟩
  | succ r ih =>
    intro k g N hk hg hA hS hW hP h0
    obtain ⟨g', rfl, hg'⟩ := f_pos hg
    show ∃ N', f_m_putRows_86 n (lp_m_putRows_86 n g') _ _ N = _ ∧ _
    have fr : Fr cdR [33] N (mset N 33 (8 * k + k) 12) := Fr.rf.set rfl
    obtain ⟨N1, z1, z2, z3, z4⟩ := l_m_pr110 n hn hI hnn hL hh hFh (lp_m_putRows_86 n g') (k := k) (by omega) (σ 0 3).toNat 0 n (mset N 33 (8 * k + k) 12) (by omega) (by omega) (hA.fr fr (by decide)) ⟨by rw [fr 0 55 rfl]; exact hS.1, fun i hi => by rw [fr 34 i rfl]; exact hS.2 i hi⟩ (fun s hs => by rw [fr 22 s rfl]; exact hW s hs) (fun j hj => by
      by_cases q : j = k
      · rw [q, mg_s, rowS_lt (by omega), ifp rfl]; rfl
      · rw [mg_j _ _ _ (by omega), h0 k j (Nat.le_refl k) (by omega) hj]
        by_cases z : j < nn
        · rw [rowS_lt z, ifn (fun w => q w.symm)]; rfl
        · rw [rowS_ge z]; rfl)
    have z1' : lp_m_putRows_110 n (lp_m_putRows_86 n g') n hld k 0 (mset N 33 (8 * k + k) 12) = _ := z1
    unfold f_m_putRows_86
    rw [ifn (by rw [hS.1]; omega), ix8 (show k < 7 by omega) (show k < 8 by omega), ckp (by omega), Int.toNat_natCast, z1']
    have f2 := fr.trans z2
    obtain ⟨N2, k1, k2, k3⟩ := ih (k + 1) g' N1 (by omega) hg' (hA.fr f2 (by decide)) ⟨by rw [f2 0 55 rfl]; exact hS.1, fun i hi => by rw [f2 34 i rfl]; exact hS.2 i hi⟩ (fun s hs => by rw [f2 22 s rfl]; exact hW s hs) (fun k' j h1 h2 => by
      by_cases q : k' = k
      · rw [q]; exact z3 j h2
      · rw [z4 _ (fun j' hj' => by omega), mg_j _ _ _ (by omega)]
        exact hP k' j (by omega) h2) (fun k' j h1 h2 h3 => by
      rw [z4 _ (fun j' hj' => by omega), mg_j _ _ _ (by omega)]
      exact h0 k' j (by omega) h2 h3)
    exact ⟨N2, k1, f2.trans k2, k3⟩
theorem e_m_putRows (n : Nat) (hn : 3000 ≤ n) (hI : Inv σ) (hA : AgR N σ) {hld : Nat} (hh : (hld : Int) < σ 0 1) (hFh : isF (σ 1) hld = false) (hW : ∀ s : Nat, (s : Int) < σ 0 3 → N 22 s = (Wh σ s (σ 0 0)).1) (hO : ∀ c : Nat, (c : Int) < σ 0 1 → isF (σ 1) c = true → (N 35 c ≠ 0 ↔ Opn σ c)) : ∃ N', f_m_putRows n hld N = some (0, N') ∧ Fr cdR [1055, 34, 33] N N' ∧ SLdR N' σ (cn (σ 0 1).toNat (oPb σ)) (oRl σ) ∧ ∀ k' j, k' < cn (σ 0 1).toNat (oPb σ) → j < cn (σ 0 1).toNat (oPb σ) + 1 → N' 33 (8 * k' + j) = tdy (AMx σ (cn (σ 0 1).toNat (oPb σ)) (oRl σ) hld k') (cn (σ 0 1).toNat (oPb σ) + 1) j := by
  have bh := hI.1.2.1
  have h7 := oPb_7 hI
  have go7 : ∀ (k h g : Nat) (N : Mm), h + k = (σ 0 1).toNat → k < g → AgR N σ → (∀ c : Nat, (c : Int) < σ 0 1 → isF (σ 1) c = true → (N 35 c ≠ 0 ↔ Opn σ c)) → N 0 55 = (cn h (oPb σ) : Int) → (∀ i, i < cn h (oPb σ) → N 34 i = (oRl σ i : Int)) → ∃ N', lp_m_putRows_7 n g hld h N = lp_m_putRows_65 n n hld 0 N' ∧ Fr cdR [1055, 34] N N' ∧ SLdR N' σ (cn (σ 0 1).toNat (oPb σ)) (oRl σ) := by
    intro k
    induction k with
    | zero =>
      intro h g N hh2 hg hA hO h55 h34
      obtain ⟨g', rfl, _⟩ := f_pos hg
      have e : h = (σ 0 1).toNat := by omega
      subst e
      show ∃ N', f_m_putRows_7 n (lp_m_putRows_7 n g') _ _ N = _ ∧ _
      unfold f_m_putRows_7
      rw [ifp (by rw [hA 0 1 rfl]; omega)]
      exact ⟨N, rfl, Fr.rf, h55, h34⟩
    | succ k ih =>
      intro h g N hh2 hg hA hO h55 h34
      obtain ⟨g', rfl, hg'⟩ := f_pos hg
      show ∃ N', f_m_putRows_7 n (lp_m_putRows_7 n g') _ h N = _ ∧ _
      have aK : N 1 = σ 1 := hA.row (k := 1) (fun _ => rfl)
      have skip : oPb σ h = false → ∃ N', lp_m_putRows_7 n g' hld ((h + 1 : Nat) : Int) N = lp_m_putRows_65 n n hld 0 N' ∧ Fr cdR [1055, 34] N N' ∧ SLdR N' σ (cn (σ 0 1).toNat (oPb σ)) (oRl σ) := fun w => ih (h + 1) g' N (by omega) hg' hA hO (by rw [cn_f w]; exact h55) (by rw [cn_f w]; exact h34)
      have nO : ¬ Opn σ h → oPb σ h = false := fun w => by
        cases q : oPb σ h with
        | false => rfl
        | true => exact absurd (oPb_t.mp q) w
      unfold f_m_putRows_7 f_m_putRows_57
      rw [ifn (by rw [hA 0 1 rfl]; omega), ckp (by omega), Int.toNat_natCast, aK, w_succ (show h < 2000000000 by omega)]
      by_cases c : σ 1 h = 1
      · have ho := hO h (by omega) (isF_of c)
        rw [ifn (fun z => z c), ckp (by omega)]
        by_cases c2 : N 35 h = 0
        · rw [ifn (fun z => z c2)]
          exact skip (nO fun z => (ho.mpr z) c2)
        · have hp : oPb σ h = true := oPb_t.mpr (ho.mp c2)
          have hlt := cn_lt (show h < (σ 0 1).toNat by omega) hp
          rw [ifp c2, h55, ckp (by omega), Int.toNat_natCast, mg_k _ _ _ (show (0 : Nat) ≠ 34 by decide), h55, w_succ (by omega), ← cn_t hp]
          have fr : Fr cdR [1055, 34] N (mset (mset N 34 (cn h (oPb σ)) (h : Int)) 0 55 (cn (h + 1) (oPb σ))) := (Fr.rf.set rfl).set rfl
          obtain ⟨N2, k1, k2, k3⟩ := ih (h + 1) g' _ (by omega) hg' (hA.fr fr (by decide)) (fun y hy hF => by rw [fr 35 y rfl]; exact hO y hy hF) (mg_s _ _ _ _) (fun i hi => by
            rw [mg_k _ _ _ (by decide)]
            rw [cn_t hp] at hi
            by_cases q : i = cn h (oPb σ)
            · rw [q, mg_s]; unfold oRl; rw [pkN_eq (by omega) hp]
            · rw [mg_j _ _ _ q]; exact h34 i (by omega))
          exact ⟨N2, k1, fr.trans k2, k3⟩
      · rw [ifp c]
        exact skip (nO fun z => c (of_decide_eq_true (Opn_F z).2))
  have go65 : ∀ (k j g : Nat) (N : Mm), j + k = 56 → k < g → (∀ i, i < j → N 33 i = 0) → ∃ N', lp_m_putRows_65 n g hld j N = lp_m_putRows_86 n n hld 0 N' ∧ Fr cdR [33] N N' ∧ ∀ i, i < 56 → N' 33 i = 0 := by
    intro k
    induction k with
    | zero =>
      intro j g N hj hg h0
      obtain ⟨g', rfl, _⟩ := f_pos hg
      show ∃ N', f_m_putRows_65 n (lp_m_putRows_65 n g') _ j N = _ ∧ _
      unfold f_m_putRows_65
      rw [ifp (by omega)]
      exact ⟨N, rfl, Fr.rf, fun i hi => h0 i (by omega)⟩
    | succ k ih =>
      intro j g N hj hg h0
      obtain ⟨g', rfl, hg'⟩ := f_pos hg
      show ∃ N', f_m_putRows_65 n (lp_m_putRows_65 n g') _ j N = _ ∧ _
      unfold f_m_putRows_65
      rw [ifn (by omega), ckp (by omega), w_succ (by omega), Int.toNat_natCast]
      have fr : Fr cdR [33] N (mset N 33 j 0) := Fr.rf.set rfl
      obtain ⟨N2, k1, k2, k3⟩ := ih (j + 1) g' (mset N 33 j 0) (by omega) hg' (fun i hi => by
        by_cases q : i = j
        · rw [q, mg_s]
        · rw [mg_j _ _ _ q]; exact h0 i (by omega))
      exact ⟨N2, k1, fr.trans k2, k3⟩
  have f0 : Fr cdR [1055, 34] N (mset N 0 55 0) := Fr.rf.set rfl
  obtain ⟨N1, a1, a2, a3⟩ := go7 (σ 0 1).toNat 0 n (mset N 0 55 0) (by omega) (by omega) (hA.fr f0 (by decide)) (fun y hy hF => by rw [f0 35 y rfl]; exact hO y hy hF) (mg_s _ _ _ _) (fun i hi => absurd hi (Nat.not_lt_zero i))
  have a1' : lp_m_putRows_7 n n hld 0 (mset N 0 55 0) = _ := a1
  obtain ⟨N2, b1, b2, b3⟩ := go65 56 0 n N1 rfl (by omega) (fun i hi => absurd hi (Nat.not_lt_zero i))
  have b1' : lp_m_putRows_65 n n hld 0 N1 = _ := b1
  have f2 : Fr cdR [1055, 34, 33] N N2 := ((f0.trans a2).mono (by decide)).trans (b2.mono (by decide))
  have s2 : SLdR N2 σ (cn (σ 0 1).toNat (oPb σ)) (oRl σ) := ⟨by rw [b2 0 55 rfl]; exact a3.1, fun i hi => by rw [b2 34 i rfl]; exact a3.2 i hi⟩
  obtain ⟨N3, c1, c2, c3⟩ := l_m_pr86 n hn hI h7 oRl_lst hh hFh (cn (σ 0 1).toNat (oPb σ)) 0 n N2 (by omega) (by omega) (hA.fr f2 (by decide)) s2 (fun s hs => by rw [f2 22 s rfl]; exact hW s hs) (fun k' j h => absurd h (Nat.not_lt_zero k')) (fun k' j _ h2 h3 => b3 _ (by omega))
  have c1' : lp_m_putRows_86 n n hld 0 N2 = _ := c1
  refine ⟨N3, ?_, f2.trans (c2.mono (by decide)), ⟨by rw [c2 0 55 rfl]; exact s2.1, fun i hi => by rw [c2 34 i rfl]; exact s2.2 i hi⟩, c3⟩
  unfold f_m_putRows
  rw [a1', b1', c1']
theorem q_worth (n : Nat) (hn : 3000 ≤ n) (fi hi w : Int) (hJ : J M N) : Sim (f_W_worth n fi hi w M) (f_m_worth n fi hi w N) := by
  have hJ0 := hJ
  obtain ⟨σ, hI, hA, hC⟩ := hJ
  have b := hI.1.2.1
  have a1 : N 0 1 = σ 0 1 := hA 0 1 rfl
  have aK : N 1 = σ 1 := hA.row (k := 1) (fun _ => rfl)
  unfold f_W_worth f_m_worth
  simp only [e_R_isFirm n M _ (show M 1 1 ≤ 16 by rw [hC.1.2.1]; exact b.2), e_m_isFirm n N fi (by rw [a1]; exact b), e_R_isHolder, e_m_isHolder n N _ (show 0 ≤ N 0 1 ∧ N 0 1 ≤ 16 by rw [a1]; exact b), bnd_mk, e_m_in, a1, hC.1.2.1, hC.1.2.2.2.2.2.1, aK]
  by_cases c : 0 ≤ fi ∧ fi < σ 0 1 ∧ σ 1 fi.toNat = 1
  · simp only [ifp c, i1]
    by_cases c2 : 0 ≤ hi ∧ hi < σ 0 1
    · simp only [ifp c2, i1]
      obtain ⟨hld, rfl⟩ := nat_of c2.1
      rw [ckp (by omega), Int.toNat_natCast]
      by_cases c3 : σ 1 hld = 1
      · rw [ifp (show 0 ≤ (hld : Int) ∧ (hld : Int) < σ 0 1 ∧ σ 1 hld = 1 from ⟨c2.1, c2.2, c3⟩), i1, ifp c3]
        exact Sim.same hJ0 _
      · rw [ifn (show ¬ (0 ≤ (hld : Int) ∧ (hld : Int) < σ 0 1 ∧ σ 1 hld = 1) from fun z => c3 z.2.2), i0, ifn c3]
        have hFh : isF (σ 1) hld = false := decide_eq_false c3
        by_cases c4 : 0 ≤ w ∧ w ≤ 1
        · rw [ifn (by omega), ifp c4.2, ifp c4, n1]
          obtain ⟨f, rfl⟩ := nat_of c.1
          have hF : isF (σ 1) f = true := isF_of (by have := c.2.2; rw [Int.toNat_natCast] at this; exact this)
          obtain ⟨M1, m1, m2, m3⟩ := e_F_unroll n hn hI hC c.2.1 hF c2.2 hFh
          obtain ⟨N1, g1, g2, g3⟩ := e_m_layOut n hn hI hA (σ 0 0)
          have hA1 := hA.fr g2 (by decide)
          have hW1 : ∀ s : Nat, (s : Int) < σ 0 3 → N1 22 s = (Wh σ s (σ 0 0)).1 := fun s hs => (g3 s hs).1
          obtain ⟨N2, k1, k2, k3, k4⟩ := e_m_findReach n hn hI hA1 hW1
          have hA2 := hA1.fr k2 (by decide)
          have hO2 : ∀ c : Nat, (c : Int) < σ 0 1 → isF (σ 1) c = true → (N2 35 c ≠ 0 ↔ Opn σ c) := fun c hc hFc => by
            rw [← k4 c hc hFc]
            have := k3 c hc
            omega
          have hWm : f_F_unroll n f hld M = some (0, M1) := m1
          rw [hWm, bnd_mk, hA 0 0 rfl, g1, bnd_mk, k1, bnd_mk, ckp (by omega), Int.toNat_natCast]
          by_cases cO : Opn σ f
          · rw [ifp (show N2 35 f ≠ 0 from (hO2 f c.2.1 hF).mpr cO)]
            rcases m3 with ⟨q1, _⟩ | ⟨_, p, q, q0, e1, e2, e3, e4⟩
            · exact absurd cO q1
            obtain ⟨N3, l1, l2, l3, l4⟩ := e_m_putRows n hn hI hA2 c2.2 hFh (fun s hs => by rw [k2 22 s rfl]; exact hW1 s hs) hO2
            have h7 := oPb_7 hI
            have hLR := oRl_lst (σ := σ)
            have hLC := oCl_lst cO
            have hnn := oQb_n c.2.1 cO
            obtain ⟨kf, kf1, kf2⟩ := hLR.2.2 f cO
            generalize hm : cn (σ 0 1).toNat (oQb σ f) = m at *
            rw [hnn] at l3 l4 h7 hLR kf1
            have hMM := AM_mm hI hLR (hld := hld)
            have hNR := AM_nrm hI hLR c2.2 hFh
            have two := AM_two hI hLR hLC (hld := hld) kf1 (by
              rw [kf2]
              unfold oCl
              rw [hm, ifn (Nat.lt_irrefl m)])
            have hMC := MK_all (AM_mm hI hLC (hld := hld)) m (by omega)
            generalize hA' : AMx σ (m + 1) (oRl σ) hld = A at *
            -- the rows at first
            have hS0 : SVx N3 A (m + 1) 0 := fun r hr => by
              have hrow : ∀ j, j < m + 1 + 1 → N3 33 (8 * r + j) = tdy (A r) (m + 1 + 1) j := fun j hj => l4 r j hr hj
              have hdg : 0 < A r r := by
                have := Wcr_dg hMM (c := 0) (r := r) (by omega) hr
                unfold Wcr at this
                rw [ifn (Nat.not_lt_zero r), Bm_0] at this
                exact this
              have hnz : rgc (A r) (m + 1 + 1) ≠ 0 := rgc_0 (c := r) (by omega) (by omega)
              refine ⟨(rgc_congr hrow).trans (tdy_one hnz), (rgc (A r) (m + 1 + 1) : Int), by omega, fun j hj => ?_⟩
              show Wcr A 0 r j = (rgc (A r) (m + 1 + 1) : Int) * N3 33 (8 * r + j)
              rw [hrow j hj, ← tdy_mul hnz hj]
              unfold Wcr
              rw [ifn (Nat.not_lt_zero r), Bm_0]
            obtain ⟨N4, s1, s2, s3⟩ := e_m_solve n hn h7 hMM hNR l3.1 hS0
            have hL4 : SLdR N4 σ (m + 1) (oRl σ) := ⟨by rw [s2 0 55 rfl]; exact l3.1, fun i hi => by rw [s2 34 i rfl]; exact l3.2 i hi⟩
            have hpl := (e_m_placeOf (N := N4) n hn h7 hLR hL4 f).1 kf kf1 kf2
            have hA4 := (hA2.fr l2 (by decide)).fr s2 (by decide)
            obtain ⟨_, t, t0, ht⟩ := s3 kf kf1
            have t1 := ht kf (by omega)
            have t2 := ht (m + 1) (by omega)
            have w1 : Wcr A (m + 1) kf kf = Dk A (m + 1) := by unfold Wcr; rw [ifp kf1, Gm_s]
            have w2 : Wcr A (m + 1) kf (m + 1) = Gmn A (m + 1) kf (m + 1) := by unfold Wcr; rw [ifp kf1]
            rw [w1] at t1
            rw [w2] at t2
            have t1' : Dk A (m + 1) = t * N4 33 (8 * kf + kf) := t1
            have t2' : Gmn A (m + 1) kf (m + 1) = t * N4 33 (8 * kf + (m + 1)) := t2
            have hDp := (MK_all hMM (m + 1) (Nat.le_refl _)).2.2.2.2 (m + 1) (Nat.le_refl _)
            have hDl := Dk_le hNR (k := m + 1) (Nat.le_refl _)
            have hGl := Gmn_le hNR (k := m + 1) (q := kf) (j := m + 1) (Nat.le_refl _) kf1 (Nat.le_refl _)
            have p24 := p24_7 (m + 1) (by omega)
            rw [t1', t2', e2, e1] at two
            generalize hbe : N4 33 (8 * kf + kf) = be at *
            generalize hab : N4 33 (8 * kf + (m + 1)) = ab at *
            have be0 : 0 < be := pos_of_mul t0 (by rw [← t1']; exact hDp)
            have tw : (q : Int) * ab = be * p := by
              have h1 : t * ((q : Int) * ab) = t * (be * p) := by grind
              exact Int.eq_of_mul_eq_mul_left (by omega) h1
            have ab0 : 0 ≤ ab := nn_of_mul (a := (q : Int)) (by omega) (by rw [tw]; exact Int.mul_nonneg (by omega) (by omega))
            have beB : be ≤ 4586471424 := by
              have : 1 * be ≤ t * be := Int.mul_le_mul_of_nonneg_right (by omega) (by omega)
              omega
            have abB : ab ≤ 4586471424 := by
              have : 1 * ab ≤ t * ab := Int.mul_le_mul_of_nonneg_right (by omega) ab0
              omega
            obtain ⟨p', hp'⟩ := nat_of ab0
            obtain ⟨q', hq'⟩ := nat_of (show 0 ≤ be by omega)
            subst hp'
            subst hq'
            have q0' : 0 < q' := by omega
            have tn : p * q' = p' * q := by
              have : ((p * q' : Nat) : Int) = ((p' * q : Nat) : Int) := by rw [Int.natCast_mul, Int.natCast_mul]; grind
              exact Int.ofNat.inj this
            have fe := frac_eq q0 q0' tn
            have hdv := e_m_divisor n hn N4 (x := (p' : Int)) (y := (q' : Int)) (by omega) (by omega)
            rw [Int.natAbs_natCast, Int.natAbs_natCast] at hdv
            have g0 : 0 < Nat.gcd p' q' := Nat.gcd_pos_of_pos_right p' q0'
            have gle : Nat.gcd p' q' ≤ q' := Nat.gcd_le_right p' q0'
            have d1 : ldv (p' : Int) (Nat.gcd p' q' : Int) = ((p' / Nat.gcd p' q' : Nat) : Int) := by
              have h1 : p' / Nat.gcd p' q' ≤ p' := Nat.div_le_self _ _
              have h2 := Nat.mul_div_cancel' (Nat.gcd_dvd_left p' q')
              generalize p' / Nat.gcd p' q' = u at h1 h2
              generalize Nat.gcd p' q' = g at h2 g0 gle
              exact ldv_ex ⟨by omega, by omega⟩ ⟨by omega, by omega⟩ ⟨by omega, by omega⟩ (by rw [← h2, Int.natCast_mul])
            have d2 : ldv (q' : Int) (Nat.gcd p' q' : Int) = ((q' / Nat.gcd p' q' : Nat) : Int) := by
              have h1 : q' / Nat.gcd p' q' ≤ q' := Nat.div_le_self _ _
              have h2 := Nat.mul_div_cancel' (Nat.gcd_dvd_right p' q')
              generalize q' / Nat.gcd p' q' = u at h1 h2
              generalize Nat.gcd p' q' = g at h2 g0 gle
              exact ldv_ex ⟨by omega, by omega⟩ ⟨by omega, by omega⟩ ⟨by omega, by omega⟩ (by rw [← h2, Int.natCast_mul])
            rw [l1, bnd_mk, s1, bnd_mk, hpl, bnd_mk, hL4.1, ix8 (show kf < 7 by omega) (show m + 1 < 8 by omega), ix8 (show kf < 7 by omega) (show kf < 8 by omega), ckp (by omega), ckp (by omega), Int.toNat_natCast, Int.toNat_natCast, hab, hbe, hdv, bnd_mk, ifp (show (0 : Int) ≤ (q' : Int) by omega)]
            unfold f_m_worth_134
            by_cases cw : w = 0
            · rw [ifn (fun z => z cw), ifn (fun z => z cw), ckp (by omega), d1, e3, fe.1]
              exact Sim.same ⟨σ, hI, hA4, m2⟩ _
            · rw [ifp cw, ifp cw, ckp (by omega), d2, e4, fe.2]
              exact Sim.same ⟨σ, hI, hA4, m2⟩ _
          · rw [ifn (show ¬ N2 35 f ≠ 0 from fun z => cO ((hO2 f c.2.1 hF).mp z))]
            rcases m3 with ⟨_, q1, q2⟩ | ⟨q1, _⟩
            · by_cases cw : w = 0
              · rw [ifn (fun z => z cw), q1, cw]
                exact Sim.same ⟨σ, hI, hA2, m2⟩ _
              · rw [ifp cw, q2, show w = 1 by omega]
                exact Sim.same ⟨σ, hI, hA2, m2⟩ _
            · exact absurd q1 cO
        · rw [ifn c4, n0]
          by_cases c5 : w < 0
          · rw [ifp c5]; exact Sim.same hJ0 _
          · rw [ifn c5, ifn (by omega)]; exact Sim.same hJ0 _
    · simp only [ifn c2, i0]; exact Sim.same hJ0 _
  · simp only [ifn c, i0]; exact Sim.same hJ0 _
end
