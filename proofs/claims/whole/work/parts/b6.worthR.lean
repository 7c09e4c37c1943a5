/-! worth(..): the reference's rows: tidied, solved. -/
section
variable {σ : Mm} {M N : Mm}
theorem ix8 {r c : Nat} (hr : r < 7) (hc : c < 8) : w32 (w32 (8 * (r : Int)) + (c : Int)) = ((8 * r + c : Nat) : Int) := by
  rw [w32_s (x := 8 * (r : Int)) (by omega) (by omega), w32_s (by omega) (by omega)]
  omega
theorem rgc_le {row : Nat → Int} {B : Nat} : ∀ {m : Nat}, (∀ c, c < m → (row c).natAbs ≤ B) → rgc row m ≤ B
  | 0, _ => Nat.zero_le _
  | m + 1, h => by
    show Nat.gcd (rgc row m) (row m).natAbs ≤ B
    by_cases q : (row m).natAbs = 0
    · rw [q, Nat.gcd_zero_right]; exact rgc_le (m := m) fun c hc => h c (by omega)
    · exact Nat.le_trans (Nat.gcd_le_right _ (by omega)) (h m (by omega))
theorem e_m_tidy (n : Nat) (hn : 3000 ≤ n) {nn r : Nat} (hnn : nn ≤ 7) (hr : r < 7) {row : Nat → Int} (h55 : N 0 55 = (nn : Int)) (hrow : ∀ c, c < nn + 1 → N 33 (8 * r + c) = row c) (hb : ∀ c, c < nn + 1 → (row c).natAbs ≤ 9223372036854775807) : ∃ N', f_m_tidy n r N = some (0, N') ∧ Fr cdR [33] N N' ∧ (∀ c, c < nn + 1 → N' 33 (8 * r + c) = tdy row (nn + 1) c) ∧ ∀ i, (∀ c, c < nn + 1 → i ≠ 8 * r + c) → N' 33 i = N 33 i := by
  have hd := rgc_le (m := nn + 1) hb
  have go2 : 1 < rgc row (nn + 1) → ∀ (k c g : Nat) (N : Mm), c + k = nn + 1 → k < g → N 0 55 = (nn : Int) → (∀ c', c' < nn + 1 → N 33 (8 * r + c') = if c' < c then tdy row (nn + 1) c' else row c') → ∃ N', lp_m_tidy_41 n g r (rgc row (nn + 1)) c N = some (0, N') ∧ Fr cdR [33] N N' ∧ (∀ c, c < nn + 1 → N' 33 (8 * r + c) = tdy row (nn + 1) c) ∧ ∀ i, (∀ c, c < nn + 1 → i ≠ 8 * r + c) → N' 33 i = N 33 i := by
    intro hd1 k
    induction k with
    | zero =>
      intro c g N hc hg h55 hP
      obtain ⟨g', rfl, _⟩ := f_pos hg
      show ∃ N', f_m_tidy_41 n (lp_m_tidy_41 n g') r _ c N = _ ∧ _
      unfold f_m_tidy_41
      rw [ifp (by rw [h55]; omega)]
      exact ⟨N, rfl, Fr.rf, fun c' h => by rw [hP c' h, ifp (by omega)], fun _ _ => rfl⟩
    | succ k ih =>
      intro c g N hc hg h55 hP
      obtain ⟨g', rfl, hg'⟩ := f_pos hg
      show ∃ N', f_m_tidy_41 n (lp_m_tidy_41 n g') r _ c N = _ ∧ _
      have e1 := hP c (by omega)
      rw [ifn (Nat.lt_irrefl c)] at e1
      have hbc := hb c (by omega)
      have hm := tdy_mul (row := row) (m := nn + 1) (by omega) (c := c) (by omega)
      have htd : (tdy row (nn + 1) c).natAbs ≤ 9223372036854775807 := by
        have : (row c).natAbs = rgc row (nn + 1) * (tdy row (nn + 1) c).natAbs := by
          have := congrArg Int.natAbs hm
          rw [Int.natAbs_mul, Int.natAbs_natCast] at this
          exact this
        have h2 : 1 * (tdy row (nn + 1) c).natAbs ≤ rgc row (nn + 1) * (tdy row (nn + 1) c).natAbs := Nat.mul_le_mul_right _ (by omega)
        omega
      have e2 : ldv (row c) (rgc row (nn + 1) : Int) = tdy row (nn + 1) c := ldv_ex ⟨by omega, by omega⟩ ⟨by omega, by omega⟩ ⟨by omega, by omega⟩ hm
      unfold f_m_tidy_41
      rw [ifn (by rw [h55]; omega), ifn (by omega), ix8 hr (by omega), ckp (by omega), ckp (by omega), ckp (by omega), Int.toNat_natCast, e1, e2, w_succ (by omega)]
      have fr : Fr cdR [33] N (mset N 33 (8 * r + c) (tdy row (nn + 1) c)) := Fr.rf.set rfl
      obtain ⟨N2, k1, k2, k3, k4⟩ := ih (c + 1) g' (mset N 33 (8 * r + c) (tdy row (nn + 1) c)) (by omega) hg' (by rw [fr 0 55 rfl]; exact h55) (fun c' h => by
        by_cases q : c' = c
        · rw [q, mg_s, ifp (by omega)]
        · rw [mg_j _ _ _ (by omega), hP c' h]
          by_cases w : c' < c
          · rw [ifp w, ifp (by omega)]
          · rw [ifn w, ifn (by omega)])
      exact ⟨N2, k1, fr.trans k2, k3, fun i hi => by rw [k4 i hi, mg_j _ _ _ (hi c (by omega))]⟩
  have go1 : ∀ (k c g : Nat), c + k = nn + 1 → k < g → lp_m_tidy_5 n g r (rgc row c) c N = lp_m_tidy_41 n n r (rgc row (nn + 1)) 0 N := by
    intro k
    induction k with
    | zero =>
      intro c g hc hg
      obtain ⟨g', rfl, _⟩ := f_pos hg
      show f_m_tidy_5 n (lp_m_tidy_5 n g') r _ c N = _
      unfold f_m_tidy_5
      rw [ifp (by rw [h55]; omega), show c = nn + 1 by omega]
    | succ k ih =>
      intro c g hc hg
      obtain ⟨g', rfl, hg'⟩ := f_pos hg
      have hbc := hb c (by omega)
      have hdc := rgc_le (row := row) (B := 9223372036854775807) (m := c) fun c' h => hb c' (by omega)
      show f_m_tidy_5 n (lp_m_tidy_5 n g') r _ c N = _
      unfold f_m_tidy_5
      rw [ifn (by rw [h55]; omega), ix8 hr (by omega), ckp (by omega), Int.toNat_natCast, hrow c (by omega), e_m_divisor n hn N (by omega) (by omega), bnd_mk, w_succ (by omega), Int.natAbs_natCast]
      exact ih (c + 1) g' (by omega) hg'
  have s1 := go1 (nn + 1) 0 n (by omega) (by omega)
  have s1' : lp_m_tidy_5 n n r 0 0 N = _ := s1
  unfold f_m_tidy
  rw [s1']
  by_cases c : 1 < rgc row (nn + 1)
  · exact go2 c (nn + 1) 0 n N (by omega) (by omega) h55 (fun c' h => by rw [ifn (Nat.not_lt_zero _)]; exact hrow c' h)
  · obtain ⟨n', rfl, _⟩ := f_pos (show 0 < n by omega)
    refine ⟨N, ?_, Fr.rf, fun c' h => by rw [hrow c' h]; unfold tdy; rw [ifn c], fun _ _ => rfl⟩
    show f_m_tidy_41 (n' + 1) (lp_m_tidy_41 (n' + 1) n') r _ 0 N = _
    unfold f_m_tidy_41
    rw [ifn (by rw [h55]; omega), ifp (by omega)]
theorem MK_dg {A : Nat → Nat → Int} {n k i : Nat} (h : MKx A n k) (hk : k ≤ i) (hi : i < n) : 0 < Bm A k i i := by
  have hneg : ∀ j, j < n → j ≠ i → Bm A k i j ≤ 0 := fun j hj hne => by
    by_cases q : j < k
    · rw [Bm_lt q]; omega
    · exact h.1 i j hk hi (by omega) hj (fun z => hne z.symm)
  obtain ⟨x, i1, i2, i3⟩ := h.2.2.2.1 (fun x => x = i) ⟨i, hk, hi, rfl⟩
  have i2' : x = i := i2
  subst i2'
  have hs := h.2.2.1 x hk hi
  rcases i3 with q | ⟨j, j1, j2, j3⟩
  · have := sm_one_le0 (g := fun j => Bm A k x j) hi hneg
    unfold rsB at q
    have this' : sm n (fun j => Bm A k x j) ≤ Bm A k x x := this
    omega
  · have := sm_one_le (g := fun j => Bm A k x j) hi j1.2 j2 hneg
    unfold rsB at hs
    have this' : sm n (fun j => Bm A k x j) ≤ Bm A k x x + Bm A k x j := this
    omega
/-- row r after c columns -/
def Wcr (A : Nat → Nat → Int) (c r j : Nat) : Int := if r < c then Gmn A c r j else Bm A c r j
theorem Wcr_dg {A : Nat → Nat → Int} {n : Nat} (hM : MMx A n) {c r : Nat} (hc : c ≤ n) (hr : r < n) : 0 < Wcr A c r r := by
  have h := MK_all hM c hc
  unfold Wcr
  by_cases q : r < c
  · rw [ifp q, Gm_s]; exact h.2.2.2.2 c (Nat.le_refl c)
  · rw [ifn q]; exact MK_dg h (by omega) hr
theorem Wcr_st {A : Nat → Nat → Int} {n : Nat} (hM : MMx A n) {c r : Nat} (hc : c < n) (hne : r ≠ c) (j : Nat) : Dk A c * Wcr A (c + 1) r j = Wcr A c c c * Wcr A c r j - Wcr A c r c * Wcr A c c j := by
  have h := MK_all hM (c + 1) (by omega)
  have hD : ∀ s, s ≤ c + 1 → Dk A s ≠ 0 := fun s hs => by have := h.2.2.2.2 s hs; omega
  unfold Wcr
  rw [ifn (Nat.lt_irrefl c), ifn (Nat.lt_irrefl c)]
  by_cases q : r < c
  · rw [ifp (show r < c + 1 by omega), ifp q, ifp q]; exact G_step hD q j
  · rw [ifn (show ¬ r < c + 1 by omega), ifn q, ifn q]; exact B_step hD r j
theorem Wcr_s {A : Nat → Nat → Int} (c j : Nat) : Wcr A (c + 1) c j = Wcr A c c j := by
  unfold Wcr
  rw [ifp (by omega), ifn (Nat.lt_irrefl c), Gmn_B]
/-- a row that tells Wcr, without a common divisor -/
def RWx (A : Nat → Nat → Int) (n c r : Nat) (row : Nat → Int) : Prop := rgc row (n + 1) = 1 ∧ ∃ t : Int, 0 < t ∧ ∀ j, j < n + 1 → Wcr A c r j = t * row j
theorem RWx_le {A : Nat → Nat → Int} {n c r : Nat} {row : Nat → Int} (h : RWx A n c r row) {B : Int} {j : Nat} (hj : j < n + 1) (hb : -B ≤ Wcr A c r j ∧ Wcr A c r j ≤ B) : -B ≤ row j ∧ row j ≤ B := by
  obtain ⟨_, t, t0, ht⟩ := h
  have e := ht j hj
  by_cases q : 0 ≤ row j
  · have : 1 * row j ≤ t * row j := Int.mul_le_mul_of_nonneg_right (by omega) q
    omega
  · have : 1 * (-row j) ≤ t * (-row j) := Int.mul_le_mul_of_nonneg_right (by omega) (by omega)
    rw [Int.mul_neg, Int.mul_neg, Int.one_mul] at this
    omega
theorem RWx_fin {A : Nat → Nat → Int} {n c r : Nat} (hM : MMx A n) (hc : c < n) {row : Nat → Int} (h1 : rgc row (n + 1) = 1) {s : Int} (hs : 0 < s) (h : ∀ j, j < n + 1 → Dk A c * Wcr A (c + 1) r j = s * row j) : RWx A n (c + 1) r row := by
  have hD := (MK_all hM c (by omega)).2.2.2.2 c (Nat.le_refl c)
  have hd : Dk A c ∣ s := rgc_one h1 fun j hj => ⟨Wcr A (c + 1) r j, (h j hj).symm⟩
  obtain ⟨t, ht⟩ := hd
  refine ⟨h1, t, pos_of_mul hD (by rw [← ht]; exact hs), fun j hj => ?_⟩
  have e := h j hj
  rw [ht, Int.mul_assoc] at e
  exact Int.eq_of_mul_eq_mul_left (by omega) e
/-- one row is freed of column c -/
theorem RWx_row {A : Nat → Nat → Int} {n c r : Nat} (hM : MMx A n) (hc : c < n) (hr : r < n) (hne : r ≠ c) {row rc : Nat → Int} (h : RWx A n c r row) (h' : RWx A n c c rc) : RWx A n (c + 1) r (tdy (fun j => row j * rc c - rc j * row c) (n + 1)) := by
  obtain ⟨g1, t, t0, ht⟩ := h
  obtain ⟨g2, u, u0, hu⟩ := h'
  have key : ∀ j, j < n + 1 → Dk A c * Wcr A (c + 1) r j = (t * u) * (row j * rc c - rc j * row c) := fun j hj => by
    rw [Wcr_st hM hc hne, ht j hj, hu c (by omega), ht c (by omega), hu j hj]
    grind
  have hD := (MK_all hM c (by omega)).2.2.2.2 c (Nat.le_refl c)
  have hnz : rgc (fun j => row j * rc c - rc j * row c) (n + 1) ≠ 0 := rgc_0 (c := r) (by omega) fun z => by
    have e := key r (by omega)
    have z' : row r * rc c - rc r * row c = 0 := z
    rw [z', Int.mul_zero] at e
    have := Int.mul_pos hD (Wcr_dg hM (c := c + 1) (r := r) (by omega) hr)
    omega
  refine RWx_fin hM hc (tdy_one hnz) (s := (t * u) * (rgc (fun j => row j * rc c - rc j * row c) (n + 1) : Int)) (Int.mul_pos (Int.mul_pos t0 u0) (by omega)) fun j hj => ?_
  have e : row j * rc c - rc j * row c = (rgc (fun j => row j * rc c - rc j * row c) (n + 1) : Int) * tdy (fun j => row j * rc c - rc j * row c) (n + 1) j := tdy_mul hnz hj
  rw [key j hj]
  conv => lhs; rw [e]
  exact (Int.mul_assoc _ _ _).symm
theorem RWx_skip {A : Nat → Nat → Int} {n c r : Nat} (hM : MMx A n) (hc : c < n) (hne : r ≠ c) {row rc : Nat → Int} (h : RWx A n c r row) (h' : RWx A n c c rc) (hz : row c = 0) : RWx A n (c + 1) r row := by
  obtain ⟨g1, t, t0, ht⟩ := h
  obtain ⟨g2, u, u0, hu⟩ := h'
  have hp := Wcr_dg hM (c := c) (r := c) (by omega) hc
  rw [hu c (by omega)] at hp
  refine RWx_fin hM hc g1 (s := (u * rc c) * t) (Int.mul_pos hp t0) fun j hj => ?_
  rw [Wcr_st hM hc hne, ht j hj, hu c (by omega), ht c (by omega), hz]
  grind
def SVx (N : Mm) (A : Nat → Nat → Int) (n c : Nat) : Prop := ∀ r, r < n → RWx A n c r (fun j => N 33 (8 * r + j))
theorem p24_7 : ∀ k, k < 8 → (24 : Int) ^ k ≤ 4586471424 := by decide
theorem p24_66 : ∀ k, k < 7 → (24 : Int) ^ k ≤ 191102976 := by decide
theorem Wcr_le {A : Nat → Nat → Int} {n c r j : Nat} (hN : NRM A n) (hn : n ≤ 7) (hc : c < n) (hr : r < n) (hj : j ≤ n) : (-4586471424 ≤ Wcr A c r j ∧ Wcr A c r j ≤ 4586471424) ∧ (r ≠ c → -191102976 ≤ Wcr A c r j ∧ Wcr A c r j ≤ 191102976) := by
  unfold Wcr
  by_cases q : r < c
  · rw [ifp q]
    have h1 := Gmn_le hN (k := c) (q := r) (j := j) (by omega) q hj
    have h2 := p24_66 c (by omega)
    omega
  · rw [ifn q]
    have h1 := Bm_le hN (k := c) (i := r) (j := j) hc hr hj
    have h2 := p24_7 (c + 1) (by omega)
    refine ⟨by omega, fun hne => ?_⟩
    have h3 := p24_66 (c + 1) (by omega)
    omega
theorem mset_id (N : Mm) (k j : Nat) : mset N k j (N k j) = N := by
  funext k' j'
  rw [mg]
  by_cases q : k' = k
  · rw [ifp q]
    by_cases w : j' = j
    · rw [ifp w, q, w]
    · rw [ifn w, q]
  · rw [ifn q]
theorem l_m_sv161 (n : Nat) (hn : 3000 ≤ n) {A : Nat → Nat → Int} {nn : Nat} (hnn : nn ≤ 7) (hM : MMx A nn) (hN : NRM A nn) (k2 : Int → Mm → Rr) (k100 : Int → Int → Mm → Rr) {c r : Nat} (hc : c < nn) (hr : r < nn) (hne : r ≠ c) {row rc : Nat → Int} (h1 : RWx A nn c r row) (h2 : RWx A nn c c rc) : ∀ (k j g : Nat) (N : Mm), j + k = nn + 1 → k < g → N 0 55 = (nn : Int) → (∀ i, i < nn + 1 → N 33 (8 * c + i) = rc i) → (∀ i, i < nn + 1 → N 33 (8 * r + i) = if i < j then row i * rc c - rc i * row c else row i) → ∃ N', lp_m_solve_161 n k2 k100 g c r (rc c) (row c) j N = k100 c ((r + 1 : Nat) : Int) N' ∧ Fr cdR [33] N N' ∧ (∀ i, i < nn + 1 → N' 33 (8 * r + i) = tdy (fun i => row i * rc c - rc i * row c) (nn + 1) i) ∧ ∀ i, (∀ j, j < nn + 1 → i ≠ 8 * r + j) → N' 33 i = N 33 i := by
  have bdr : ∀ j, j < nn + 1 → -191102976 ≤ row j ∧ row j ≤ 191102976 := fun j hj => RWx_le h1 hj ((Wcr_le hN hnn hc hr (by omega)).2 hne)
  have bdc : ∀ j, j < nn + 1 → -4586471424 ≤ rc j ∧ rc j ≤ 4586471424 := fun j hj => RWx_le h2 hj (Wcr_le hN hnn hc hc (by omega)).1
  have bp : ∀ j, j < nn + 1 → (-(191102976 * 4586471424) ≤ row j * rc c ∧ row j * rc c ≤ 191102976 * 4586471424) ∧ (-(4586471424 * 191102976) ≤ rc j * row c ∧ rc j * row c ≤ 4586471424 * 191102976) := fun j hj => ⟨mul_bd (bdr j hj) (bdc c (by omega)), mul_bd (bdc j hj) (bdr c (by omega))⟩
  intro k
  induction k with
  | zero =>
    intro j g N hj hg h55 hcc hrr
    obtain ⟨g', rfl, _⟩ := f_pos hg
    show ∃ N', f_m_solve_161 n k2 k100 (lp_m_solve_161 n k2 k100 g') _ _ _ _ j N = _ ∧ _
    obtain ⟨N1, z1, z2, z3, z4⟩ := e_m_tidy (N := N) n hn (nn := nn) (r := r) hnn (by omega) (row := fun i => row i * rc c - rc i * row c) h55 (fun i hi => by rw [hrr i hi, ifp (by omega)]) (fun i hi => by
      have := bp i hi
      show (row i * rc c - rc i * row c).natAbs ≤ _
      omega)
    unfold f_m_solve_161 f_m_solve_224
    rw [ifp (by rw [h55]; omega), z1, bnd_mk, w_succ (by omega)]
    exact ⟨N1, rfl, z2, z3, z4⟩
  | succ k ih =>
    intro j g N hj hg h55 hcc hrr
    obtain ⟨g', rfl, hg'⟩ := f_pos hg
    show ∃ N', f_m_solve_161 n k2 k100 (lp_m_solve_161 n k2 k100 g') _ _ _ _ j N = _ ∧ _
    have e1 := hrr j (by omega)
    rw [ifn (Nat.lt_irrefl j)] at e1
    have b := bp j (by omega)
    have ev : w64 ((w64 (row j * rc c)) - (w64 (rc j * row c))) = row j * rc c - rc j * row c := by
      rw [w64_id (x := row j * rc c) (by omega) (by omega), w64_id (x := rc j * row c) (by omega) (by omega), w64_id (by omega) (by omega)]
    unfold f_m_solve_161
    rw [ifn (by rw [h55]; omega), ix8 (show r < 7 by omega) (show j < 8 by omega), ix8 (show c < 7 by omega) (show j < 8 by omega), ckp (by omega), ckp (by omega), ckp (by omega), Int.toNat_natCast, Int.toNat_natCast, e1, hcc j (by omega), ev, w_succ (by omega)]
    have fr : Fr cdR [33] N (mset N 33 (8 * r + j) (row j * rc c - rc j * row c)) := Fr.rf.set rfl
    obtain ⟨N2, k1, k2', k3, k4⟩ := ih (j + 1) g' (mset N 33 (8 * r + j) (row j * rc c - rc j * row c)) (by omega) hg' (by rw [fr 0 55 rfl]; exact h55) (fun i hi => by rw [mg_j _ _ _ (by omega)]; exact hcc i hi) (fun i hi => by
      by_cases q : i = j
      · rw [q, mg_s, ifp (by omega)]
      · rw [mg_j _ _ _ (by omega), hrr i hi]
        by_cases w : i < j
        · rw [ifp w, ifp (by omega)]
        · rw [ifn w, ifn (by omega)])
    exact ⟨N2, k1, fr.trans k2', k3, fun i hi => by rw [k4 i hi, mg_j _ _ _ (hi j (by omega))]⟩
theorem l_m_sv100 (n : Nat) (hn : 3000 ≤ n) {A : Nat → Nat → Int} {nn : Nat} (hnn : nn ≤ 7) (hM : MMx A nn) (hN : NRM A nn) (k2 : Int → Mm → Rr) {c : Nat} (hc : c < nn) : ∀ (k r g : Nat) (N : Mm), r + k = nn → k < g → N 0 55 = (nn : Int) → (∀ r', r' < nn → RWx A nn (if r' < r ∨ r' = c then c + 1 else c) r' (fun j => N 33 (8 * r' + j))) → ∃ N', lp_m_solve_100 n k2 g c r N = k2 ((c + 1 : Nat) : Int) N' ∧ Fr cdR [33] N N' ∧ SVx N' A nn (c + 1) := by
  intro k
  induction k with
  | zero =>
    intro r g N hr hg h55 hP
    obtain ⟨g', rfl, _⟩ := f_pos hg
    show ∃ N', f_m_solve_100 n k2 (lp_m_solve_100 n k2 g') c r N = _ ∧ _
    unfold f_m_solve_100
    rw [ifp (by rw [h55]; omega), w_succ (by omega)]
    exact ⟨N, rfl, Fr.rf, fun r' h => by have := hP r' h; rw [ifp (Or.inl (by omega))] at this; exact this⟩
  | succ k ih =>
    intro r g N hr hg h55 hP
    obtain ⟨g', rfl, hg'⟩ := f_pos hg
    show ∃ N', f_m_solve_100 n k2 (lp_m_solve_100 n k2 g') c r N = _ ∧ _
    unfold f_m_solve_100 f_m_solve_224
    rw [ifn (by rw [h55]; omega), w_succ (show r < 2000000000 by omega)]
    by_cases q : r = c
    · rw [ifp (show (r : Int) = (c : Int) by omega)]
      refine ih (r + 1) g' N (by omega) hg' h55 fun r' h => ?_
      have := hP r' h
      by_cases w : r' < r ∨ r' = c
      · rw [ifp w] at this; rw [ifp (by omega)]; exact this
      · rw [ifn w] at this; rw [ifn (by omega)]; exact this
    · have hrow := hP r (by omega)
      rw [ifn (show ¬ (r < r ∨ r = c) by omega)] at hrow
      have hpc := hP c hc
      rw [ifp (Or.inr rfl)] at hpc
      have hpc' : RWx A nn c c (fun j => N 33 (8 * c + j)) := ⟨hpc.1, by
        obtain ⟨t, t0, ht⟩ := hpc.2
        exact ⟨t, t0, fun j hj => by rw [← Wcr_s]; exact ht j hj⟩⟩
      rw [ifn (show ¬ (r : Int) = (c : Int) by omega), ix8 (show r < 7 by omega) (show c < 8 by omega), ckp (by omega), Int.toNat_natCast]
      by_cases z : N 33 (8 * r + c) = 0
      · rw [ifn (fun y => y z)]
        refine ih (r + 1) g' N (by omega) hg' h55 fun r' h => ?_
        by_cases w : r' = r
        · rw [ifp (by omega), w]
          exact RWx_skip hM hc q hrow hpc' z
        · have := hP r' h
          by_cases y : r' < r ∨ r' = c
          · rw [ifp y] at this; rw [ifp (by omega)]; exact this
          · rw [ifn y] at this; rw [ifn (by omega)]; exact this
      · rw [ifp z, ix8 (show c < 7 by omega) (show c < 8 by omega), ckp (by omega), ckp (by omega), Int.toNat_natCast]
        obtain ⟨N1, z1, z2, z3, z4⟩ := l_m_sv161 n hn hnn hM hN k2 (lp_m_solve_100 n k2 g') hc (show r < nn by omega) q hrow hpc' (nn + 1) 0 n N (by omega) (by omega) h55 (fun i _ => rfl) (fun i _ => by rw [ifn (Nat.not_lt_zero _)])
        have z1' : lp_m_solve_161 n k2 (lp_m_solve_100 n k2 g') n c r (N 33 (8 * c + c)) (N 33 (8 * r + c)) 0 N = _ := z1
        rw [z1']
        obtain ⟨N2, k1, k2', k3⟩ := ih (r + 1) g' N1 (by omega) hg' (by rw [z2 0 55 rfl]; exact h55) (fun r' h => by
          by_cases w : r' = r
          · rw [ifp (by omega), w]
            have := RWx_row hM hc (show r < nn by omega) q hrow hpc'
            refine ⟨?_, ?_⟩
            · exact (rgc_congr fun j hj => z3 j hj).trans this.1
            · obtain ⟨t, t0, ht⟩ := this.2
              exact ⟨t, t0, fun j hj => by rw [ht j hj]; show _ = t * N1 33 (8 * r + j); rw [z3 j hj]⟩
          · have := hP r' h
            have e : ∀ j, j < nn + 1 → N1 33 (8 * r' + j) = N 33 (8 * r' + j) := fun j hj => z4 _ fun j' hj' => by omega
            have tr : ∀ cc, RWx A nn cc r' (fun j => N 33 (8 * r' + j)) → RWx A nn cc r' (fun j => N1 33 (8 * r' + j)) := fun cc hh => ⟨(rgc_congr e).trans hh.1, by
              obtain ⟨t, t0, ht⟩ := hh.2
              exact ⟨t, t0, fun j hj => by rw [ht j hj]; show _ = t * N1 33 (8 * r' + j); rw [e j hj]⟩⟩
            by_cases y : r' < r ∨ r' = c
            · rw [ifp y] at this; rw [ifp (by omega)]; exact tr _ this
            · rw [ifn y] at this; rw [ifn (by omega)]; exact tr _ this)
        exact ⟨N2, k1, z2.trans k2', k3⟩
theorem e_m_solve (n : Nat) (hn : 3000 ≤ n) {A : Nat → Nat → Int} {nn : Nat} (hnn : nn ≤ 7) (hM : MMx A nn) (hN : NRM A nn) (h55 : N 0 55 = (nn : Int)) (hS : SVx N A nn 0) : ∃ N', f_m_solve n N = some (0, N') ∧ Fr cdR [33] N N' ∧ SVx N' A nn nn := by
  have sw : ∀ (k2 : Int → Mm → Rr) (c : Nat), c < nn → ∀ (k j g : Nat) (N : Mm), j + k = nn + 1 → k < g → N 0 55 = (nn : Int) → lp_m_solve_36 n k2 g c c j N = lp_m_solve_100 n k2 n c 0 N := by
    intro k2 c hc k
    induction k with
    | zero =>
      intro j g N hj hg h55
      obtain ⟨g', rfl, _⟩ := f_pos hg
      show f_m_solve_36 n k2 (lp_m_solve_36 n k2 g') _ _ j N = _
      unfold f_m_solve_36
      rw [ifp (by rw [h55]; omega)]
    | succ k ih =>
      intro j g N hj hg h55
      obtain ⟨g', rfl, hg'⟩ := f_pos hg
      show f_m_solve_36 n k2 (lp_m_solve_36 n k2 g') _ _ j N = _
      unfold f_m_solve_36
      rw [ifn (by rw [h55]; omega), ix8 (show c < 7 by omega) (show j < 8 by omega), ckp (by omega), ckp (by omega), ckp (by omega), ckp (by omega), Int.toNat_natCast, mset_id, mset_id, w_succ (by omega)]
      exact ih (j + 1) g' N (by omega) hg' h55
  have go : ∀ (k c g : Nat) (N : Mm), c + k = nn → k < g → N 0 55 = (nn : Int) → SVx N A nn c → ∃ N', lp_m_solve_2 n g c N = some (0, N') ∧ Fr cdR [33] N N' ∧ SVx N' A nn nn := by
    intro k
    induction k with
    | zero =>
      intro c g N hc hg h55 hS
      obtain ⟨g', rfl, _⟩ := f_pos hg
      have e : c = nn := by omega
      subst e
      show ∃ N', f_m_solve_2 n (lp_m_solve_2 n g') _ N = _ ∧ _
      unfold f_m_solve_2
      rw [ifp (by rw [h55]; omega)]
      exact ⟨N, rfl, Fr.rf, hS⟩
    | succ k ih =>
      intro c g N hc hg h55 hS
      obtain ⟨g', rfl, hg'⟩ := f_pos hg
      show ∃ N', f_m_solve_2 n (lp_m_solve_2 n g') _ N = _ ∧ _
      have hpv : N 33 (8 * c + c) ≠ 0 := fun z => by
        obtain ⟨_, t, t0, ht⟩ := hS c (by omega)
        have h1 := ht c (by omega)
        have h2 := Wcr_dg hM (c := c) (r := c) (by omega) (by omega)
        have h3 : Wcr A c c c = t * N 33 (8 * c + c) := h1
        rw [z, Int.mul_zero] at h3
        omega
      obtain ⟨N1, z1, z2, z3⟩ := l_m_sv100 n hn hnn hM hN (lp_m_solve_2 n g') (c := c) (by omega) nn 0 n N (by omega) (by omega) h55 (fun r' h => by
        by_cases q : r' = c
        · rw [ifp (Or.inr q), q]
          have := hS c (by omega)
          refine ⟨this.1, ?_⟩
          obtain ⟨t, t0, ht⟩ := this.2
          exact ⟨t, t0, fun j hj => by rw [Wcr_s]; exact ht j hj⟩
        · rw [ifn (by omega)]; exact hS r' h)
      have z1' : lp_m_solve_100 n (lp_m_solve_2 n g') n c 0 N = _ := z1
      have e0 : ∀ g, 0 < g → lp_m_solve_12 n (lp_m_solve_2 n g') g c c N = lp_m_solve_36 n (lp_m_solve_2 n g') n c c 0 N := fun g hg => by
        obtain ⟨g2, rfl, _⟩ := f_pos hg
        show f_m_solve_12 n (lp_m_solve_2 n g') (lp_m_solve_12 n (lp_m_solve_2 n g') g2) c c N = _
        unfold f_m_solve_12
        rw [ix8 (show c < 7 by omega) (show c < 8 by omega), ckp (by omega), Int.toNat_natCast, ifp hpv]
      have e12 := e0 n (by omega)
      have s36 := sw (lp_m_solve_2 n g') c (by omega) (nn + 1) 0 n N (by omega) (by omega) h55
      have s36' : lp_m_solve_36 n (lp_m_solve_2 n g') n c c 0 N = _ := s36
      unfold f_m_solve_2
      rw [ifn (by rw [h55]; omega), e12, s36', z1']
      obtain ⟨N2, k1, k2, k3⟩ := ih (c + 1) g' N1 (by omega) hg' (by rw [z2 0 55 rfl]; exact h55) z3
      exact ⟨N2, k1, z2.trans k2, k3⟩
  exact go nn 0 n N (by omega) (by omega) h55 hS
end
