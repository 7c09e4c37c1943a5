/-! worth(..): the class's answer; the reference's rows; the call. -/
section
variable {σ : Mm} {M N : Mm}
theorem e_F_unroll (n : Nat) (hn : 3000 ≤ n) (hI : Inv σ) (hC : RelC M σ) {f hld : Nat} (hf : (f : Int) < σ 0 1) (hF : isF (σ 1) f = true) (hh : (hld : Int) < σ 0 1) (hFh : isF (σ 1) hld = false) : ∃ M', f_F_unroll n f hld M = some (0, M') ∧ RelC M' σ ∧ ((¬ Opn σ f ∧ M' 5 8 = 0 ∧ M' 5 9 = 1) ∨ (Opn σ f ∧ ∃ p q : Nat, 0 < q ∧ Bm (AMx σ (cn (σ 0 1).toNat (oQb σ f) + 1) (oCl σ f) hld) (cn (σ 0 1).toNat (oQb σ f)) (cn (σ 0 1).toNat (oQb σ f)) (cn (σ 0 1).toNat (oQb σ f) + 1) = (p : Int) ∧ Bm (AMx σ (cn (σ 0 1).toNat (oQb σ f) + 1) (oCl σ f) hld) (cn (σ 0 1).toNat (oQb σ f)) (cn (σ 0 1).toNat (oQb σ f)) (cn (σ 0 1).toNat (oQb σ f)) = (q : Int) ∧ M' 5 8 = ((p / Nat.gcd p q : Nat) : Int) ∧ M' 5 9 = ((q / Nat.gcd p q : Nat) : Int))) := by
  have bh := hI.1.2.1
  obtain ⟨M1, m1, m2, m3, _⟩ := e_F_load n hn hI hC
  have hC1 := hC.fr m2 (by decide)
  have fr0 : Fr cdC [1508, 1509] M1 (mset (mset M1 5 8 0) 5 9 1) := (Fr.rf.set rfl).set rfl
  have hC2 := hC1.fr fr0 (by decide)
  have hL2 : LDt (mset (mset M1 5 8 0) 5 9 1) σ (σ 0 3).toNat := fun c hc hFc => by
    have := m3 c hc hFc
    refine ⟨fun i hi => ?_, ?_⟩
    · rw [mg_k _ _ _ (by omega), mg_k _ _ _ (by omega)]; exact this.1 i hi
    · rw [mg_k _ _ _ (by decide), mg_k _ _ _ (by decide)]; exact this.2
  obtain ⟨x, x1, x2, x3, x4⟩ := e_F_openFirms n hn hI hC2 hL2
  have hbit : bI x f = true ↔ Opn σ f := ⟨x3 f, x4 f hf hF⟩
  unfold f_F_unroll
  rw [m1, bnd_mk, x1, bnd_mk, bit_I (by omega)]
  by_cases c : Opn σ f
  · rw [ifp (hbit.mpr c), ifp (show (1 : Int) ≠ 0 by decide)]
    have hm7 := oQb_lt hI hf hF
    have hL := oCl_lst c
    obtain ⟨M3, p1, p2, p3⟩ := e_F_putInOrder n hn hI hC2 hf hF x3 x4
    have fr3 : Fr cdC [1508, 1509, 61] M1 M3 := (fr0.mono (by decide)).trans (p2.mono (by decide))
    have hH3 : HPt M3 σ := fun c hc h hh16 => by
      have q := Opn_F hc
      have e1 : [1508, 1509, 61].elem (cdC (180 + c) h) = false := by
        have e : cdC (180 + c) h = 180 + c := by unfold cdC; rw [ifn (by omega)]
        rw [e]
        have : ∀ c, c < 16 → [1508, 1509, 61].elem (180 + c) = false := by decide
        exact this c (by omega)
      rw [fr3 _ _ e1]
      exact (m3 c q.1 q.2).1 h hh16
    generalize hme : cn (σ 0 1).toNat (oQb σ f) = m at *
    obtain ⟨M4, w1, w2, w3⟩ := e_F_writeLines n hn hI hm7 hL (hld := hld) (by omega) p3 hH3
    have hMM := AM_mm hI hL (hld := hld)
    have hNR := AM_nrm hI hL hh hFh
    generalize hA : AMx σ (m + 1) (oCl σ f) hld = A at *
    obtain ⟨M5, z1, z2, z3⟩ := e_F_eliminate n hn hm7 hMM hNR (M := M4) (fun a b _ h2 _ h4 => by rw [w3 a b h2 h4, Bm_0])
    have hMK := MK_all hMM m (by omega)
    have hq0 := MK_piv hMK (show m < m + 1 by omega)
    have hp0 := hMK.2.1 m (Nat.le_refl m) (by omega)
    have bq := Bm_le hNR (k := m) (i := m) (j := m) (by omega) (by omega) (by omega)
    have bp := Bm_le hNR (k := m) (i := m) (j := m + 1) (by omega) (by omega) (by omega)
    have p24 := p24_7 (m + 1) (by omega)
    obtain ⟨p, hp⟩ := nat_of hp0
    obtain ⟨q, hq⟩ := nat_of (show 0 ≤ Bm A m m m by omega)
    have v1 := z3 m (m + 1) (Nat.le_refl m) (by omega) (by omega) (by omega)
    have v2 := z3 m m (Nat.le_refl m) (by omega) (Nat.le_refl m) (by omega)
    rw [hp] at v1
    rw [hq] at v2
    have hpl : p < 9223372036854775808 := by omega
    have hql : q < 9223372036854775808 ∧ 0 < q := by omega
    have h33 : (2 : Nat) ^ 33 = 8589934592 := by decide
    have hg := e_F_gcd n M5 33 p q 0 n (by omega) (by omega) (by omega) hpl hql.1
    have hg' : f_F_greatestDivisor n (p : Int) (q : Int) M5 = some ((Nat.gcd p q : Int), M5) := hg
    have g0 : 0 < Nat.gcd p q := Nat.gcd_pos_of_pos_right p hql.2
    have gle : Nat.gcd p q ≤ q := Nat.gcd_le_right p hql.2
    have d1 : ldv (p : Int) (Nat.gcd p q : Int) = ((p / Nat.gcd p q : Nat) : Int) := by
      have h1 : p / Nat.gcd p q ≤ p := Nat.div_le_self _ _
      have h2 := Nat.mul_div_cancel' (Nat.gcd_dvd_left p q)
      generalize p / Nat.gcd p q = u at h1 h2
      generalize Nat.gcd p q = g at h2 g0 gle
      exact ldv_ex ⟨by omega, by omega⟩ ⟨by omega, by omega⟩ ⟨by omega, by omega⟩ (by rw [← h2, Int.natCast_mul])
    have d2 : ldv (q : Int) (Nat.gcd p q : Int) = ((q / Nat.gcd p q : Nat) : Int) := by
      have h1 : q / Nat.gcd p q ≤ q := Nat.div_le_self _ _
      have h2 := Nat.mul_div_cancel' (Nat.gcd_dvd_right p q)
      generalize q / Nat.gcd p q = u at h1 h2
      generalize Nat.gcd p q = g at h2 g0 gle
      exact ldv_ex ⟨by omega, by omega⟩ ⟨by omega, by omega⟩ ⟨by omega, by omega⟩ (by rw [← h2, Int.natCast_mul])
    rw [p1, bnd_mk, w1, bnd_mk, z1, bnd_mk]
    simp only [show w32 (((m + 1 : Nat) : Int) - 1) = (m : Int) by rw [w32_s (by omega) (by omega)]; omega, ckp (show (0 : Int) ≤ (m : Int) ∧ (m : Int) < 7 by omega), ckp (show (0 : Int) ≤ ((m + 1 : Nat) : Int) ∧ ((m + 1 : Nat) : Int) < 8 by omega), ckp (show (0 : Int) ≤ (m : Int) ∧ (m : Int) < 8 by omega), Int.toNat_natCast, v1, v2, hg', bnd_mk, ifn (show ¬ ((Nat.gcd p q : Nat) : Int) ≤ 0 by omega), ckp (show ((Nat.gcd p q : Nat) : Int) ≠ 0 by omega), mg_k _ _ _ (show 200 + m ≠ 5 by omega), d1, d2]
    have fr5 : Fr cdC [1508, 1509] M5 (mset (mset M5 5 8 ((p / Nat.gcd p q : Nat) : Int)) 5 9 ((q / Nat.gcd p q : Nat) : Int)) := (Fr.rf.set rfl).set rfl
    have hC5 := (((hC1.fr fr3 (by decide)).fr w2 (by decide)).fr z2 (by decide)).fr fr5 (by decide)
    refine ⟨_, rfl, hC5, Or.inr ⟨c, p, q, hql.2, hp, hq, ?_, mg_s _ _ _ _⟩⟩
    rw [mg_j _ _ _ (by decide), mg_s]
  · rw [ifn (fun z => c (hbit.mp z)), ifn (show ¬ (0 : Int) ≠ 0 by decide)]
    refine ⟨_, rfl, hC2, Or.inl ⟨c, ?_, mg_s _ _ _ _⟩⟩
    rw [mg_j _ _ _ (by decide), mg_s]
/-- the reference's listing -/
noncomputable def oRl (σ : Mm) (i : Nat) : Nat := pkN (σ 0 1).toNat (oPb σ) i
theorem oRl_lst : LST σ (cn (σ 0 1).toNat (oPb σ)) (oRl σ) := by
  refine ⟨fun i hi => oPb_t.mp (pkN_in hi).2.1, fun i j hi hj he => pkN_inj hi hj he, fun c hc => ?_⟩
  have hlt : c < (σ 0 1).toNat := by have := (Opn_F hc).1; omega
  exact ⟨cn c (oPb σ), cn_lt hlt (oPb_t.mpr hc), pkN_eq hlt (oPb_t.mpr hc)⟩
theorem oPb_7 (hI : Inv σ) : cn (σ 0 1).toNat (oPb σ) ≤ 7 := by
  have h7 : (cn (σ 0 1).toNat (isF (σ 1)) : Int) ≤ 7 := by have := hI.1.2.2.2.2.2; omega
  have := cn_imp (p := oPb σ) (q := isF (σ 1)) (fun i hi => (Opn_F (oPb_t.mp hi)).2) (σ 0 1).toNat
  omega
def SLdR (N σ : Mm) (nn : Nat) (o : Nat → Nat) : Prop := N 0 55 = (nn : Int) ∧ ∀ i, i < nn → N 34 i = (o i : Int)
theorem e_m_placeOf (n : Nat) (hn : 3000 ≤ n) {nn : Nat} (hnn : nn ≤ 7) {o : Nat → Nat} (hL : LST σ nn o) (hS : SLdR N σ nn o) (c : Nat) : (∀ i, i < nn → o i = c → f_m_placeOf n c N = some ((i : Int), N)) ∧ (¬ Opn σ c → f_m_placeOf n c N = some (-1, N)) := by
  have go1 : ∀ (i : Nat), i < nn → o i = c → ∀ (k j g : Nat), j + k = i → k < g → lp_m_placeOf_2 n g c j N = some ((i : Int), N) := by
    intro i hi ho k
    induction k with
    | zero =>
      intro j g hj hg
      obtain ⟨g', rfl, _⟩ := f_pos hg
      have e : j = i := by omega
      subst e
      show f_m_placeOf_2 n (lp_m_placeOf_2 n g') c j N = _
      unfold f_m_placeOf_2
      rw [ifn (by rw [hS.1]; omega), ckp (by omega), Int.toNat_natCast, hS.2 j hi, ho, ifn (fun z => z rfl)]
    | succ k ih =>
      intro j g hj hg
      obtain ⟨g', rfl, hg'⟩ := f_pos hg
      show f_m_placeOf_2 n (lp_m_placeOf_2 n g') c j N = _
      have hne : o j ≠ c := fun z => by have := hL.2.1 j i (by omega) hi (by rw [z, ho]); omega
      unfold f_m_placeOf_2
      rw [ifn (by rw [hS.1]; omega), ckp (by omega), Int.toNat_natCast, hS.2 j (by omega), ifp (by omega), w_succ (by omega)]
      exact ih (j + 1) g' (by omega) hg'
  have go2 : ¬ Opn σ c → ∀ (k j g : Nat), j + k = nn → k < g → lp_m_placeOf_2 n g c j N = some (-1, N) := by
    intro hc k
    induction k with
    | zero =>
      intro j g hj hg
      obtain ⟨g', rfl, _⟩ := f_pos hg
      show f_m_placeOf_2 n (lp_m_placeOf_2 n g') c j N = _
      unfold f_m_placeOf_2
      rw [ifp (by rw [hS.1]; omega)]
    | succ k ih =>
      intro j g hj hg
      obtain ⟨g', rfl, hg'⟩ := f_pos hg
      show f_m_placeOf_2 n (lp_m_placeOf_2 n g') c j N = _
      have hne : o j ≠ c := fun z => hc (by rw [← z]; exact hL.1 j (by omega))
      unfold f_m_placeOf_2
      rw [ifn (by rw [hS.1]; omega), ckp (by omega), Int.toNat_natCast, hS.2 j (by omega), ifp (by omega), w_succ (by omega)]
      exact ih (j + 1) g' (by omega) hg'
  exact ⟨fun i hi ho => go1 i hi ho i 0 n (by omega) (by omega), fun hc => go2 hc nn 0 n (by omega) (by omega)⟩
/-- row k after s shares -/
def rowS (σ : Mm) (nn : Nat) (o : Nat → Nat) (hld k s j : Nat) : Int := if j < nn then (if k = j then 12 else 0) - hpt σ (o k) (o j) s else hpt σ (o k) hld s
theorem hpt_st (c h s : Nat) : hpt σ c h (s + 1) = hpt σ c h s + (if σ 3 s = (c : Int) ∧ ow σ s (σ 0 0) = (h : Int) then σ 5 s else 0) := rfl
theorem rowS_lt {nn : Nat} {o : Nat → Nat} {hld k s j : Nat} (h : j < nn) : rowS σ nn o hld k s j = (if k = j then 12 else 0) - hpt σ (o k) (o j) s := by unfold rowS; rw [ifp h]
theorem rowS_ge {nn : Nat} {o : Nat → Nat} {hld k s j : Nat} (h : ¬ j < nn) : rowS σ nn o hld k s j = hpt σ (o k) hld s := by unfold rowS; rw [ifn h]
theorem rowS_keep {nn : Nat} {o : Nat → Nat} {hld k s j : Nat} (h1 : j < nn → ¬ (σ 3 s = (o k : Int) ∧ ow σ s (σ 0 0) = (o j : Int))) (h2 : ¬ j < nn → ¬ (σ 3 s = (o k : Int) ∧ ow σ s (σ 0 0) = (hld : Int))) : rowS σ nn o hld k (s + 1) j = rowS σ nn o hld k s j := by
  by_cases z : j < nn
  · rw [rowS_lt z, rowS_lt z, hpt_st, ifn (h1 z), Int.add_zero]
  · rw [rowS_ge z, rowS_ge z, hpt_st, ifn (h2 z), Int.add_zero]
theorem rowS_own {nn : Nat} {o : Nat → Nat} {hld k s j : Nat} (z : j < nn) (h : σ 3 s = (o k : Int) ∧ ow σ s (σ 0 0) = (o j : Int)) : rowS σ nn o hld k (s + 1) j = rowS σ nn o hld k s j - σ 5 s := by
  rw [rowS_lt z, rowS_lt z, hpt_st, ifp h]
  omega
theorem rowS_hld {nn : Nat} {o : Nat → Nat} {hld k s : Nat} (h : σ 3 s = (o k : Int) ∧ ow σ s (σ 0 0) = (hld : Int)) : rowS σ nn o hld k (s + 1) nn = rowS σ nn o hld k s nn + σ 5 s := by
  rw [rowS_ge (Nat.lt_irrefl nn), rowS_ge (Nat.lt_irrefl nn), hpt_st, ifp h]
theorem rowS_in (hI : Inv σ) {nn : Nat} {o : Nat → Nat} {hld k s j : Nat} (hs : (s : Int) ≤ σ 0 3) : -480 ≤ rowS σ nn o hld k s j ∧ rowS σ nn o hld k s j ≤ 492 := by
  have b1 := hI.2.1.1
  have h1 := hpt_in hI (o k) (o j) hs
  have h2 := hpt_in hI (o k) hld hs
  by_cases z : j < nn
  · rw [rowS_lt z]; split <;> omega
  · rw [rowS_ge z]; omega
theorem l_m_pr110 (n : Nat) (hn : 3000 ≤ n) (hI : Inv σ) {nn : Nat} (hnn : nn ≤ 7) {o : Nat → Nat} (hL : LST σ nn o) {hld : Nat} (hh : (hld : Int) < σ 0 1) (hFh : isF (σ 1) hld = false) (k86 : Int → Int → Mm → Rr) {k : Nat} (hk : k < nn) : ∀ (r s g : Nat) (N : Mm), s + r = (σ 0 3).toNat → r < g → AgR N σ → SLdR N σ nn o → (∀ s : Nat, (s : Int) < σ 0 3 → N 22 s = (Wh σ s (σ 0 0)).1) → (∀ j, j < nn + 1 → N 33 (8 * k + j) = rowS σ nn o hld k s j) → ∃ N', lp_m_putRows_110 n k86 g hld k s N = k86 hld ((k + 1 : Nat) : Int) N' ∧ Fr cdR [33] N N' ∧ (∀ j, j < nn + 1 → N' 33 (8 * k + j) = tdy (AMx σ nn o hld k) (nn + 1) j) ∧ ∀ i, (∀ j, j < nn + 1 → i ≠ 8 * k + j) → N' 33 i = N 33 i := by
  have b1 := hI.2.1.1
  have bh := hI.1.2.1
  have p4 := hI.2.1.2.2.2.1
  intro r
  induction r with
  | zero =>
    intro s g N hs hg hA hS hW hP
    obtain ⟨g', rfl, _⟩ := f_pos hg
    have e : s = (σ 0 3).toNat := by omega
    subst e
    show ∃ N', f_m_putRows_110 n k86 (lp_m_putRows_110 n k86 g') _ _ _ N = _ ∧ _
    have e2 : ∀ j, rowS σ nn o hld k (σ 0 3).toNat j = AMx σ nn o hld k j := fun j => rfl
    obtain ⟨N1, z1, z2, z3, z4⟩ := e_m_tidy (N := N) n hn (nn := nn) (r := k) hnn (by omega) (row := AMx σ nn o hld k) hS.1 (fun c hc => by rw [hP c hc, e2]) (fun c hc => by
      rw [← e2]
      have := rowS_in hI (nn := nn) (o := o) (hld := hld) (k := k) (s := (σ 0 3).toNat) (j := c) (by omega)
      omega)
    unfold f_m_putRows_110
    rw [ifp (by rw [hA 0 3 rfl]; omega), z1, bnd_mk, w_succ (by omega)]
    exact ⟨N1, rfl, z2, z3, z4⟩
  | succ r ih =>
    intro s g N hs hg hA hS hW hP
    obtain ⟨g', rfl, hg'⟩ := f_pos hg
    show ∃ N', f_m_putRows_110 n k86 (lp_m_putRows_110 n k86 g') _ _ _ N = _ ∧ _
    have p5 := p4 s (by omega)
    have q := ow_in hI (s := s) (by omega) (σ 0 0)
    have a3 : N 3 = σ 3 := hA.row (k := 3) (fun _ => rfl)
    have a5 : N 5 = σ 5 := hA.row (k := 5) (fun _ => rfl)
    have aK : N 1 = σ 1 := hA.row (k := 1) (fun _ => rfl)
    -- nothing changes
    have skip : (∀ j, j < nn + 1 → rowS σ nn o hld k (s + 1) j = rowS σ nn o hld k s j) → ∃ N', lp_m_putRows_110 n k86 g' hld k ((s + 1 : Nat) : Int) N = k86 hld ((k + 1 : Nat) : Int) N' ∧ Fr cdR [33] N N' ∧ (∀ j, j < nn + 1 → N' 33 (8 * k + j) = tdy (AMx σ nn o hld k) (nn + 1) j) ∧ ∀ i, (∀ j, j < nn + 1 → i ≠ 8 * k + j) → N' 33 i = N 33 i := fun w => ih (s + 1) g' N (by omega) hg' hA hS hW fun j hj => by rw [hP j hj, w j hj]
    have put : ∀ (j0 : Nat) (v : Int), j0 < nn + 1 → v = rowS σ nn o hld k (s + 1) j0 → (∀ j, j < nn + 1 → j ≠ j0 → rowS σ nn o hld k (s + 1) j = rowS σ nn o hld k s j) → ∃ N', lp_m_putRows_110 n k86 g' hld k ((s + 1 : Nat) : Int) (mset N 33 (8 * k + j0) v) = k86 hld ((k + 1 : Nat) : Int) N' ∧ Fr cdR [33] N N' ∧ (∀ j, j < nn + 1 → N' 33 (8 * k + j) = tdy (AMx σ nn o hld k) (nn + 1) j) ∧ ∀ i, (∀ j, j < nn + 1 → i ≠ 8 * k + j) → N' 33 i = N 33 i := fun j0 v hj0 hv w => by
      have fr : Fr cdR [33] N (mset N 33 (8 * k + j0) v) := Fr.rf.set rfl
      obtain ⟨N2, k1, k2, k3, k4⟩ := ih (s + 1) g' (mset N 33 (8 * k + j0) v) (by omega) hg' (hA.fr fr (by decide)) ⟨by rw [fr 0 55 rfl]; exact hS.1, fun i hi => by rw [fr 34 i rfl]; exact hS.2 i hi⟩ (fun i hi => by rw [fr 22 i rfl]; exact hW i hi) (fun j hj => by
        by_cases z : j = j0
        · rw [z, mg_s, hv]
        · rw [mg_j _ _ _ (by omega), hP j hj, w j hj z])
      exact ⟨N2, k1, fr.trans k2, k3, fun i hi => by rw [k4 i hi, mg_j _ _ _ (hi j0 hj0)]⟩
    unfold f_m_putRows_110 f_m_putRows_237
    rw [ifn (by rw [hA 0 3 rfl]; omega), ckp (by omega), ckp (by omega), Int.toNat_natCast, Int.toNat_natCast, a3, hS.2 k hk, hW s (by omega), w_succ (show s < 2000000000 by omega)]
    by_cases c1 : σ 3 s = (o k : Int)
    · rw [ifn (fun z => z c1), ckp (by omega)]
      rcases q with q | q
      · rw [ifn (by omega)]
        exact skip fun j _ => rowS_keep (fun _ z => by omega) (fun _ z => by omega)
      · obtain ⟨y, hy⟩ := nat_of q.1
        rw [← q.2.2.1, hy, ifp (by omega), ckp (by omega), ckp (by omega), Int.toNat_natCast, aK]
        by_cases c2 : σ 1 y = 1
        · have hFy : isF (σ 1) y = true := isF_of c2
          have hyh : y ≠ hld := fun z => by rw [z, hFh] at hFy; cases hFy
          rw [ifn (fun z => z c2), ckp (by omega)]
          have pl := e_m_placeOf (N := N) n hn hnn hL hS y
          by_cases c3 : Opn σ y
          · obtain ⟨j0, j1, j2⟩ := hL.2.2 y c3
            rw [pl.1 j0 j1 j2, bnd_mk]
            unfold f_m_putRows_174 f_m_putRows_203 f_m_putRows_237
            have e1 := hP j0 (by omega)
            have h1 := rowS_in hI (nn := nn) (o := o) (hld := hld) (k := k) (s := s) (j := j0) (by omega)
            have ev : w64 (rowS σ nn o hld k s j0 - σ 5 s) = rowS σ nn o hld k (s + 1) j0 := by
              rw [rowS_own j1 ⟨c1, by rw [hy, j2]⟩, w64_id (by omega) (by omega)]
            rw [ifn (show ¬ (j0 : Int) < 0 by omega), ix8 (show k < 7 by omega) (show j0 < 8 by omega), ckp (by omega), ckp (by omega), ckp (by omega), Int.toNat_natCast, Int.toNat_natCast, e1, a5, ev, ckp (by omega), mg_k _ _ _ (show (22 : Nat) ≠ 33 by decide), hW s (by omega), ← q.2.2.1, hy, ifp (show (y : Int) ≠ (hld : Int) by omega), w_succ (show s < 2000000000 by omega)]
            exact put j0 _ (by omega) rfl fun j hj hne => rowS_keep (fun z w => hne (hL.2.1 j j0 z j1 (by omega))) (fun z w => hyh (by omega))
          · rw [pl.2 c3, bnd_mk]
            unfold f_m_putRows_174 f_m_putRows_203 f_m_putRows_237
            rw [ifp (show (-1 : Int) < 0 by decide), ckp (by omega), Int.toNat_natCast, hW s (by omega), ← q.2.2.1, hy, ifp (show (y : Int) ≠ (hld : Int) by omega), w_succ (show s < 2000000000 by omega)]
            exact skip fun j hj => rowS_keep (fun z w => c3 (by
                have : o j = y := by omega
                rw [← this]; exact hL.1 j z)) (fun z w => hyh (by omega))
        · have hFy : isF (σ 1) y = false := decide_eq_false c2
          have hoj : ∀ j, j < nn → o j ≠ y := fun j hj z => by
            have := (Opn_F (hL.1 j hj)).2
            rw [z, hFy] at this; cases this
          rw [ifp c2]
          unfold f_m_putRows_174 f_m_putRows_203 f_m_putRows_237
          rw [ifp (show (-1 : Int) < 0 by decide), ckp (by omega), Int.toNat_natCast, hW s (by omega), ← q.2.2.1, hy, w_succ (show s < 2000000000 by omega)]
          by_cases c4 : y = hld
          · have e1 := hP nn (by omega)
            have h1 := rowS_in hI (nn := nn) (o := o) (hld := hld) (k := k) (s := s) (j := nn) (by omega)
            have ev : w64 (rowS σ nn o hld k s nn + σ 5 s) = rowS σ nn o hld k (s + 1) nn := by
              rw [rowS_hld ⟨c1, by rw [hy, c4]⟩, w64_id (by omega) (by omega)]
            rw [ifn (show ¬ (y : Int) ≠ (hld : Int) by omega), hS.1, ix8 (show k < 7 by omega) (show nn < 8 by omega), ckp (by omega), ckp (by omega), ckp (by omega), Int.toNat_natCast, e1, a5, ev]
            exact put nn _ (by omega) rfl fun j hj hne => rowS_keep (fun z w => hoj j z (by omega)) (fun z w => by omega)
          · rw [ifp (show (y : Int) ≠ (hld : Int) by omega)]
            exact skip fun j hj => rowS_keep (fun z w => hoj j z (by omega)) (fun z w => c4 (by omega))
    · rw [ifp c1]
      exact skip fun j _ => rowS_keep (fun _ z => c1 z.1) (fun _ z => c1 z.1)
end
