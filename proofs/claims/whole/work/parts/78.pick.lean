/-! Sets of few: how many, which shares are picked, their bits and prices. -/
def pcn (m : Nat) : Nat := cn 12 (fun i => m.testBit i)
def bcf (x : Int) : Int := ((f_JI_bitCount 0 x (fun _ _ => 0)).map Prod.fst).getD 0
theorem two64 {p : Nat → Prop} (h : ∀ a : Nat, a < 64 → ∀ b : Nat, b < 64 → p (64 * a + b)) {m : Nat} (hm : m < 4096) : p m := by
  have e := h (m / 64) (by omega) (m % 64) (by omega)
  rw [show 64 * (m / 64) + m % 64 = m by omega] at e
  exact e
theorem bcf_all0 : ∀ a : Nat, a < 64 → ∀ b : Nat, b < 64 → bcf ((64 * a + b : Nat) : Int) = (pcn (64 * a + b) : Int) := by decide +kernel
theorem bcf_all {m : Nat} (hm : m < 4096) : bcf (m : Int) = (pcn m : Int) := two64 (p := fun m => bcf (m : Int) = (pcn m : Int)) bcf_all0 hm
theorem e_bitCount (n : Nat) (M : Mm) {m : Nat} (hm : m < 4096) : f_JI_bitCount n m M = some ((pcn m : Int), M) := by
  rw [← bcf_all hm]
  rfl
theorem pcn_step0 : ∀ a : Nat, a < 64 → ∀ b : Nat, b < 64 → 64 * a + b ≠ 0 → lan ((64 * a + b : Nat) : Int) (w64 (((64 * a + b : Nat) : Int) - 1)) = (((64 * a + b) &&& ((64 * a + b) - 1) : Nat) : Int) ∧ pcn ((64 * a + b) &&& ((64 * a + b) - 1)) + 1 = pcn (64 * a + b) ∧ ((64 * a + b) &&& ((64 * a + b) - 1)) < 4096 := by decide +kernel
theorem pcn_step {m : Nat} (hm : m < 4096) : m ≠ 0 → lan (m : Int) (w64 ((m : Int) - 1)) = ((m &&& (m - 1) : Nat) : Int) ∧ pcn (m &&& (m - 1)) + 1 = pcn m ∧ (m &&& (m - 1)) < 4096 := two64 (p := fun m => m ≠ 0 → lan (m : Int) (w64 ((m : Int) - 1)) = ((m &&& (m - 1) : Nat) : Int) ∧ pcn (m &&& (m - 1)) + 1 = pcn m ∧ (m &&& (m - 1)) < 4096) pcn_step0 hm
theorem pcn_00 : ∀ a : Nat, a < 64 → ∀ b : Nat, b < 64 → pcn (64 * a + b) = 0 → 64 * a + b = 0 := by decide +kernel
theorem pcn_0 {m : Nat} (hm : m < 4096) : pcn m = 0 → m = 0 := two64 (p := fun m => pcn m = 0 → m = 0) pcn_00 hm
theorem e_m_ones (n : Nat) (hn : 3000 ≤ n) (N : Mm) {m : Nat} (hm : m < 4096) : f_m_ones n m N = some ((pcn m : Int), N) := by
  have go : ∀ (c g a m : Nat), pcn m = c → m < 4096 → c < g → a + c < 100 → lp_m_ones_5 n g a m N = some (((a + c : Nat) : Int), N) := by
    intro c
    induction c with
    | zero =>
      intro g a m hc hm hg ha
      obtain ⟨g', rfl, _⟩ := f_pos hg
      show f_m_ones_5 n (lp_m_ones_5 n g') a m N = _
      have e := pcn_0 hm hc
      subst e
      unfold f_m_ones_5
      rw [ifp (show ((0 : Nat) : Int) = 0 from rfl)]
      rfl
    | succ c ih =>
      intro g a m hc hm hg ha
      obtain ⟨g', rfl, hg'⟩ := f_pos hg
      show f_m_ones_5 n (lp_m_ones_5 n g') a m N = _
      have h0 : m ≠ 0 := by
        intro e
        subst e
        have : pcn 0 = 0 := by decide
        omega
      have s := pcn_step hm h0
      unfold f_m_ones_5
      rw [ifn (by omega), s.1, w_succ (by omega)]
      have I := ih g' (a + 1) (m &&& (m - 1)) (by omega) s.2.2 hg' (by omega)
      rw [I]
      congr 3; omega
  have hp : pcn m ≤ 12 := cn_le _ 12
  have := go (pcn m) n 0 m rfl hm (by omega) (by omega)
  rw [Nat.zero_add] at this
  exact this
/-- the k-th that is picked -/
def pkN (sh : Nat) (P : Nat → Bool) (k : Nat) : Nat := fsn sh (fun s => P s && decide (cn s P = k))
theorem pkN_in {sh : Nat} {P : Nat → Bool} {k : Nat} (h : k < cn sh P) : pkN sh P k < sh ∧ P (pkN sh P k) = true ∧ cn (pkN sh P k) P = k := by
  obtain ⟨s, h1, h2, h3⟩ := cn_nth h
  have hlt : pkN sh P k < sh := by
    apply Nat.lt_of_not_le
    intro q
    have := fsn_least (p := fun s => P s && decide (cn s P = k)) (k := sh) (i := s) (by unfold pkN at q; omega) h1
    simp [h2, h3] at this
  have := fsn_p (p := fun s => P s && decide (cn s P = k)) hlt
  simp at this
  exact ⟨hlt, this.1, this.2⟩
theorem pkN_eq {sh : Nat} {P : Nat → Bool} {s : Nat} (hs : s < sh) (hP : P s = true) : pkN sh P (cn s P) = s := by
  have h := pkN_in (cn_lt hs hP)
  exact cn_inj h.2.1 hP h.2.2
theorem pkN_inj {sh : Nat} {P : Nat → Bool} {i j : Nat} (hi : i < cn sh P) (hj : j < cn sh P) (h : pkN sh P i = pkN sh P j) : i = j := by
  rw [← (pkN_in hi).2.2, ← (pkN_in hj).2.2, h]
/-- how many are picked, of at most k -/
def pkc (mx sh : Nat) (P : Nat → Bool) : Nat := min mx (cn sh P)
/-- the shares of a set of picked ones, as bits: of the first k -/
def lbits (sh : Nat) (P : Nat → Bool) (m : Nat) : Nat → Int
  | 0 => 0
  | k + 1 => lor (lbits sh P m k) (if m.testBit k = true then lsh 1 (pkN sh P k) else 0)
theorem lbits_in (sh : Nat) (P : Nat → Bool) (m : Nat) : ∀ k : Nat, in64 (lbits sh P m k)
  | 0 => lr_i ir_0
  | k + 1 => lr_or _ _
theorem lbits_bit {sh : Nat} (hsh : sh ≤ 40) (P : Nat → Bool) (m : Nat) : ∀ (k : Nat), k ≤ cn sh P → ∀ s : Nat, bL (lbits sh P m k) s = (decide (s < sh) && (P s && (decide (cn s P < k) && m.testBit (cn s P))))
  | 0, _, s => by
    show bL 0 s = _
    rw [bL_0]
    simp
  | k + 1, hk, s => by
    have h := pkN_in (show k < cn sh P by omega)
    unfold lbits
    rw [bL_or, lbits_bit hsh P m k (by omega) s]
    have e : bL (if m.testBit k = true then lsh 1 (pkN sh P k) else 0) s = (m.testBit k && decide (s = pkN sh P k)) := by
      by_cases c : m.testBit k = true
      · rw [ifp c, bL_bit (by omega), c, Bool.true_and]
      · rw [ifn c, bL_0, show m.testBit k = false by simpa using c, Bool.false_and]
    rw [e]
    by_cases c : s = pkN sh P k
    · rw [c, h.2.2, h.2.1]
      simp [h.1]
    · rw [decide_eq_false c, Bool.and_false, Bool.or_false]
      by_cases c1 : s < sh
      · cases hP : P s with
        | false => simp
        | true =>
          have c2 : cn s P ≠ k := by
            intro q
            exact c (by rw [← q]; exact (pkN_eq c1 hP).symm)
          by_cases c3 : cn s P < k
          · simp [c3, show cn s P < k + 1 by omega]
          · simp [c3, show ¬ cn s P < k + 1 by omega]
      · simp [c1]
/-- the price of a set of picked shares: share by share, or one picked by one -/
theorem sm_pick (g : Nat → Int) {sh : Nat} (P : Nat → Bool) (m : Nat) : ∀ (k : Nat), k ≤ cn sh P → sm sh (fun s => if (P s && (decide (cn s P < k) && m.testBit (cn s P))) = true then g s else 0) = sm k (fun j => if m.testBit j = true then g (pkN sh P j) else 0)
  | 0, _ => by
    rw [sm_zero (fun i _ => by simp)]; rfl
  | k + 1, hk => by
    have h := pkN_in (show k < cn sh P by omega)
    have I := sm_pick (sh := sh) g P m k (by omega)
    have e : ∀ s, s < sh → (if (P s && (decide (cn s P < k + 1) && m.testBit (cn s P))) = true then g s else 0) = (fun s => if s = pkN sh P k then (if m.testBit k = true then g (pkN sh P k) else 0) else (fun s => if (P s && (decide (cn s P < k) && m.testBit (cn s P))) = true then g s else 0) s) s := by
      intro s hs
      show _ = if s = pkN sh P k then (if m.testBit k = true then g (pkN sh P k) else 0) else (if (P s && (decide (cn s P < k) && m.testBit (cn s P))) = true then g s else 0)
      by_cases c : s = pkN sh P k
      · rw [ifp c, c, h.2.2, h.2.1]
        simp
      · rw [ifn c]
        cases hP : P s with
        | false => simp
        | true =>
          have c2 : cn s P ≠ k := by
            intro q
            exact c (by rw [← q]; exact (pkN_eq hs hP).symm)
          by_cases c3 : cn s P < k
          · simp [c3, show cn s P < k + 1 by omega]
          · simp [c3, show ¬ cn s P < k + 1 by omega]
    rw [sm_congr e, sm_upd, I, ifp h.1]
    show sm k _ + ((if m.testBit k = true then g (pkN sh P k) else 0) - (if (P (pkN sh P k) && (decide (cn (pkN sh P k) P < k) && m.testBit (cn (pkN sh P k) P))) = true then g (pkN sh P k) else 0)) = sm k _ + (if m.testBit k = true then g (pkN sh P k) else 0)
    rw [h.2.2]
    simp
