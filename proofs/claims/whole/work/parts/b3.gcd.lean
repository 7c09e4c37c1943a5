/-! Divisors. -/
theorem ldv_ex {x y q : Int} (hx : in64 x) (hy : 0 < y ∧ y ≤ 9223372036854775807) (hq : in64 q) (h : x = y * q) : ldv x y = q := by
  unfold ldv
  rw [Int64.toInt_div]
  have h1 : (Int64.ofInt x).toInt = x := t_i64 hx
  have h2 : (Int64.ofInt y).toInt = y := t_i64 ⟨by omega, hy.2⟩
  rw [h1, h2, h, Int.mul_tdiv_cancel_left q (by omega)]
  exact Int.bmod_eq_of_le (by have := hq.1; omega) (by have := hq.2; omega)
theorem lrm_nn {x y : Nat} (hx : x < 9223372036854775808) (hy : 0 < y ∧ y < 9223372036854775808) : lrm (x : Int) (y : Int) = ((x % y : Nat) : Int) := by
  have h3 : x / y ≤ x := Nat.div_le_self x y
  have h0 : Int64.ofInt (x : Int) / Int64.ofInt (y : Int) = Int64.ofInt ((x / y : Nat) : Int) := by
    have e : (Int64.ofInt (x : Int) / Int64.ofInt (y : Int)).toInt = ((x / y : Nat) : Int) := by
      rw [Int64.toInt_div]
      have h1 : (Int64.ofInt (x : Int)).toInt = x := t_i64 ⟨by omega, by omega⟩
      have h2 : (Int64.ofInt (y : Int)).toInt = y := t_i64 ⟨by omega, by omega⟩
      rw [h1, h2, Int.tdiv_eq_ediv_of_nonneg (by omega), ← Int.natCast_ediv]
      generalize x / y = q at h3
      exact Int.bmod_eq_of_le (by omega) (by omega)
    rw [← e, Int64.ofInt_toInt]
  have h5 : x / y * y ≤ x := Nat.div_mul_le_self x y
  have h6 : x - x / y * y = x % y := by
    have := Nat.div_add_mod x y
    rw [Nat.mul_comm] at this
    omega
  unfold lrm
  rw [h0, ← Int64.ofInt_mul, ← Int64.ofInt_sub]
  have e7 : (x : Int) - ((x / y : Nat) : Int) * (y : Int) = ((x % y : Nat) : Int) := by
    rw [← Int.natCast_mul, ← h6]; omega
  rw [e7]
  have h8 : x % y ≤ x := Nat.mod_le x y
  exact t_i64 ⟨by omega, by omega⟩
theorem euc_half {b r : Nat} (hr : 0 < r) (hrb : r < b) {k : Nat} (hb : b < 2 ^ (k + 1)) : b % r < 2 ^ k := by
  have h1 := Nat.mod_lt b hr
  have h2 : 1 ≤ b / r := Nat.div_pos (by omega) hr
  have h3 := Nat.div_add_mod b r
  have h4 : r * 1 ≤ r * (b / r) := Nat.mul_le_mul_left r h2
  rw [Nat.pow_succ] at hb
  omega
theorem e_F_gcd (n : Nat) (M : Mm) : ∀ (k a b i g : Nat), b < 2 ^ k → i + 2 * k ≤ 199 → 2 * k + 1 < g → a < 9223372036854775808 → b < 9223372036854775808 → lp_F_greatestDivisor_9 n g a b i M = some ((Nat.gcd a b : Int), M) := by
  intro k
  induction k with
  | zero =>
    intro a b i g hb hi hg ha hb2
    obtain ⟨g', rfl, _⟩ := f_pos (show 0 < g by omega)
    have : b = 0 := by rw [Nat.pow_zero] at hb; omega
    subst this
    show f_F_greatestDivisor_9 n (lp_F_greatestDivisor_9 n g') a _ i M = _
    unfold f_F_greatestDivisor_9
    rw [ifn (show ¬ (200 : Int) ≤ (i : Int) by omega), ifp (show ((0 : Nat) : Int) = 0 from rfl), Nat.gcd_zero_right]
  | succ k ih =>
    intro a b i g hb hi hg ha hb2
    obtain ⟨g', rfl, hg'⟩ := f_pos (show 0 < g by omega)
    show f_F_greatestDivisor_9 n (lp_F_greatestDivisor_9 n g') a b i M = _
    unfold f_F_greatestDivisor_9
    rw [ifn (show ¬ (200 : Int) ≤ (i : Int) by omega)]
    by_cases c : b = 0
    · subst c
      rw [ifp (show ((0 : Nat) : Int) = 0 from rfl), Nat.gcd_zero_right]
    · rw [ifn (by omega), ckp (by omega), lrm_nn ha (by omega), w_succ (by omega)]
      have hm := Nat.mod_lt a (show 0 < b by omega)
      obtain ⟨g2, rfl, _⟩ := f_pos (show 0 < g' by omega)
      show f_F_greatestDivisor_9 n (lp_F_greatestDivisor_9 n g2) b _ _ M = _
      unfold f_F_greatestDivisor_9
      rw [ifn (show ¬ (200 : Int) ≤ ((i + 1 : Nat) : Int) by omega)]
      have eg : Nat.gcd a b = Nat.gcd b (a % b) := by rw [Nat.gcd_comm a b, Nat.gcd_rec b a, Nat.gcd_comm]
      by_cases c2 : a % b = 0
      · rw [ifp (by omega), eg, c2, Nat.gcd_zero_right]
      · rw [ifn (by omega), ckp (by omega), lrm_nn hb2 (by omega), w_succ (by omega)]
        have eg2 : Nat.gcd b (a % b) = Nat.gcd (a % b) (b % (a % b)) := by rw [Nat.gcd_comm b, Nat.gcd_rec (a % b) b, Nat.gcd_comm]
        have hm2 := Nat.mod_lt b (show 0 < a % b by omega)
        rw [eg, eg2]
        exact ih (a % b) (b % (a % b)) (i + 1 + 1) g2 (euc_half (by omega) hm hb) (by omega) (by omega) (by omega) (by omega)
theorem e_m_gcd0 (n : Nat) (N : Mm) : ∀ (k a b g : Nat), b < 2 ^ k → 2 * k + 1 < g → a < 9223372036854775808 → b < 9223372036854775808 → lp_m_divisor_28 n g a b N = some ((Nat.gcd a b : Int), N) := by
  intro k
  induction k with
  | zero =>
    intro a b g hb hg ha hb2
    obtain ⟨g', rfl, _⟩ := f_pos (show 0 < g by omega)
    have : b = 0 := by rw [Nat.pow_zero] at hb; omega
    subst this
    show f_m_divisor_28 n (lp_m_divisor_28 n g') a _ N = _
    unfold f_m_divisor_28
    rw [ifp (show ((0 : Nat) : Int) = 0 from rfl), Nat.gcd_zero_right]
  | succ k ih =>
    intro a b g hb hg ha hb2
    obtain ⟨g', rfl, hg'⟩ := f_pos (show 0 < g by omega)
    show f_m_divisor_28 n (lp_m_divisor_28 n g') a b N = _
    unfold f_m_divisor_28
    by_cases c : b = 0
    · subst c
      rw [ifp (show ((0 : Nat) : Int) = 0 from rfl), Nat.gcd_zero_right]
    · rw [ifn (by omega), ckp (by omega), lrm_nn ha (by omega)]
      have hm := Nat.mod_lt a (show 0 < b by omega)
      obtain ⟨g2, rfl, _⟩ := f_pos (show 0 < g' by omega)
      show f_m_divisor_28 n (lp_m_divisor_28 n g2) b _ N = _
      unfold f_m_divisor_28
      have eg : Nat.gcd a b = Nat.gcd b (a % b) := by rw [Nat.gcd_comm a b, Nat.gcd_rec b a, Nat.gcd_comm]
      by_cases c2 : a % b = 0
      · rw [ifp (by omega), eg, c2, Nat.gcd_zero_right]
      · rw [ifn (by omega), ckp (by omega), lrm_nn hb2 (by omega)]
        have eg2 : Nat.gcd b (a % b) = Nat.gcd (a % b) (b % (a % b)) := by rw [Nat.gcd_comm b, Nat.gcd_rec (a % b) b, Nat.gcd_comm]
        have hm2 := Nat.mod_lt b (show 0 < a % b by omega)
        rw [eg, eg2]
        exact ih (a % b) (b % (a % b)) g2 (euc_half (by omega) hm hb) (by omega) (by omega) (by omega)
theorem e_m_divisor (n : Nat) (hn : 3000 ≤ n) (N : Mm) {x y : Int} (hx : -9223372036854775807 ≤ x ∧ x ≤ 9223372036854775807) (hy : -9223372036854775807 ≤ y ∧ y ≤ 9223372036854775807) : f_m_divisor n x y N = some ((Nat.gcd x.natAbs y.natAbs : Int), N) := by
  have h63 : (2 : Nat) ^ 63 = 9223372036854775808 := by decide
  have go := e_m_gcd0 n N 63 x.natAbs y.natAbs n (by omega) (by omega) (by omega) (by omega)
  have fin : ∀ s0 : Int, s0 = (x.natAbs : Int) → f_m_divisor_12 n y s0 N = some ((Nat.gcd x.natAbs y.natAbs : Int), N) := fun s0 hs => by
    unfold f_m_divisor_12 f_m_divisor_26
    rw [hs]
    by_cases c : 0 ≤ y
    · rw [ifp c, show y = (y.natAbs : Int) by omega]
      rw [show ((y.natAbs : Int).natAbs) = y.natAbs by omega]
      exact go
    · rw [ifn c, w64_id (by omega) (by omega), show -y = (y.natAbs : Int) by omega]
      exact go
  unfold f_m_divisor
  by_cases c : 0 ≤ x
  · rw [ifp c]; exact fin x (by omega)
  · rw [ifn c, w64_id (by omega) (by omega)]; exact fin (-x) (by omega)
/-- the greatest that divides the first m of a row -/
def rgc (row : Nat → Int) : Nat → Nat
  | 0 => 0
  | c + 1 => Nat.gcd (rgc row c) (row c).natAbs
theorem rgc_dvd {row : Nat → Int} {e : Nat} : ∀ {m : Nat}, e ∣ rgc row m ↔ ∀ c, c < m → e ∣ (row c).natAbs
  | 0 => ⟨fun _ c hc => absurd hc (Nat.not_lt_zero c), fun _ => Nat.dvd_zero e⟩
  | m + 1 => by
    show e ∣ Nat.gcd (rgc row m) (row m).natAbs ↔ _
    rw [Nat.dvd_gcd_iff, rgc_dvd]
    constructor
    · rintro ⟨h1, h2⟩ c hc
      by_cases q : c = m
      · rw [q]; exact h2
      · exact h1 c (by omega)
    · intro h
      exact ⟨fun c hc => h c (by omega), h m (by omega)⟩
theorem rgc_congr {row row' : Nat → Int} : ∀ {m : Nat}, (∀ c, c < m → row c = row' c) → rgc row m = rgc row' m
  | 0, _ => rfl
  | m + 1, h => by
    show Nat.gcd (rgc row m) (row m).natAbs = Nat.gcd (rgc row' m) (row' m).natAbs
    rw [rgc_congr (m := m) fun c hc => h c (by omega), h m (by omega)]
theorem rgc_mul (s : Int) (row : Nat → Int) : ∀ m : Nat, rgc (fun c => s * row c) m = s.natAbs * rgc row m
  | 0 => rfl
  | m + 1 => by
    show Nat.gcd (rgc (fun c => s * row c) m) (s * row m).natAbs = s.natAbs * Nat.gcd (rgc row m) (row m).natAbs
    rw [rgc_mul s row m, Int.natAbs_mul, Nat.gcd_mul_left]
/-- a row without a common divisor: what divides s times it divides s -/
theorem rgc_one {row : Nat → Int} {m : Nat} (h : rgc row m = 1) {s D : Int} (hd : ∀ c, c < m → D ∣ s * row c) : D ∣ s := by
  have h1 : D.natAbs ∣ rgc (fun c => s * row c) m := rgc_dvd.mpr fun c hc => Int.natAbs_dvd_natAbs.mpr (hd c hc)
  rw [rgc_mul, h, Nat.mul_one] at h1
  exact Int.natAbs_dvd_natAbs.mp h1
/-- the row without its divisor -/
def tdy (row : Nat → Int) (m : Nat) : Nat → Int := fun c => if 1 < rgc row m then row c / (rgc row m : Int) else row c
theorem tdy_mul {row : Nat → Int} {m : Nat} (h0 : rgc row m ≠ 0) {c : Nat} (hc : c < m) : row c = (rgc row m : Int) * tdy row m c := by
  unfold tdy
  by_cases q : 1 < rgc row m
  · rw [ifp q]
    have := rgc_dvd.mp (Nat.dvd_refl (rgc row m)) c hc
    exact (Int.mul_ediv_cancel' (Int.ofNat_dvd_left.mpr this)).symm
  · rw [ifn q, show rgc row m = 1 by omega]
    omega
theorem tdy_one {row : Nat → Int} {m : Nat} (h0 : rgc row m ≠ 0) : rgc (tdy row m) m = 1 := by
  have h1 : rgc row m = rgc (fun c => (rgc row m : Int) * tdy row m c) m := rgc_congr fun c hc => tdy_mul h0 hc
  rw [rgc_mul, Int.natAbs_natCast] at h1
  have h2 : rgc row m * 1 = rgc row m * rgc (tdy row m) m := by omega
  exact (Nat.eq_of_mul_eq_mul_left (by omega) h2).symm
theorem rgc_0 {row : Nat → Int} {m c : Nat} (hc : c < m) (h : row c ≠ 0) : rgc row m ≠ 0 := fun e => by
  have := rgc_dvd.mp (show 0 ∣ rgc row m by rw [e]; exact Nat.dvd_refl 0) c hc
  have := Nat.eq_zero_of_zero_dvd this
  omega
/-- equal fractions, both without common divisors -/
theorem frac_eq {p q p' q' : Nat} (hq : 0 < q) (hq' : 0 < q') (h : p * q' = p' * q) : p / Nat.gcd p q = p' / Nat.gcd p' q' ∧ q / Nat.gcd p q = q' / Nat.gcd p' q' := by
  have g0 : 0 < Nat.gcd p q := Nat.gcd_pos_of_pos_right p hq
  have g0' : 0 < Nat.gcd p' q' := Nat.gcd_pos_of_pos_right p' hq'
  have c1 := Nat.coprime_div_gcd_div_gcd g0
  have c2 := Nat.coprime_div_gcd_div_gcd g0'
  have e1 : p = Nat.gcd p q * (p / Nat.gcd p q) := (Nat.mul_div_cancel' (Nat.gcd_dvd_left p q)).symm
  have e2 : q = Nat.gcd p q * (q / Nat.gcd p q) := (Nat.mul_div_cancel' (Nat.gcd_dvd_right p q)).symm
  have e3 : p' = Nat.gcd p' q' * (p' / Nat.gcd p' q') := (Nat.mul_div_cancel' (Nat.gcd_dvd_left p' q')).symm
  have e4 : q' = Nat.gcd p' q' * (q' / Nat.gcd p' q') := (Nat.mul_div_cancel' (Nat.gcd_dvd_right p' q')).symm
  generalize p / Nat.gcd p q = u at *
  generalize q / Nat.gcd p q = v at *
  generalize p' / Nat.gcd p' q' = u' at *
  generalize q' / Nat.gcd p' q' = v' at *
  generalize Nat.gcd p q = g at *
  generalize Nat.gcd p' q' = g' at *
  have h2 : u * v' = u' * v := by
    rw [e1, e4, e3, e2] at h
    have h3 : (g * g') * (u * v') = (g * g') * (u' * v) := by grind
    exact Nat.eq_of_mul_eq_mul_left (Nat.mul_pos g0 g0') h3
  have v0 : 0 < v := Nat.pos_of_ne_zero fun z => by rw [z] at e2; omega
  have v0' : 0 < v' := Nat.pos_of_ne_zero fun z => by rw [z] at e4; omega
  have d1 : v ∣ v' := by
    have : v ∣ u * v' := by rw [h2]; exact Nat.dvd_mul_left v u'
    exact (Nat.Coprime.symm c1).dvd_of_dvd_mul_left this
  have d2 : v' ∣ v := by
    have : v' ∣ u' * v := by rw [← h2]; exact Nat.dvd_mul_left v' u
    exact (Nat.Coprime.symm c2).dvd_of_dvd_mul_left this
  have ev : v = v' := Nat.dvd_antisymm d1 d2
  subst ev
  exact ⟨Nat.eq_of_mul_eq_mul_right v0 h2, rfl⟩
