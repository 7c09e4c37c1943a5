/-! pivot(..): counting ways. -/
def wyS (a : Nat → Int) : Nat → Nat → Int → Int → Nat
  | 0, _, lo, hi => if lo ≤ 0 ∧ 0 ≤ hi then 1 else 0
  | r + 1, k, lo, hi => wyS a r (k + 1) lo hi + wyS a r (k + 1) (lo - a k) (hi - a k)
def rsS (a : Nat → Int) : Nat → Nat → Int
  | 0, _ => 0
  | r + 1, k => rsS a r (k + 1) + a k
theorem wyS_last (a : Nat → Int) : ∀ (r k : Nat) (lo hi : Int), wyS a (r + 1) k lo hi = wyS a r k lo hi + wyS a r k (lo - a (k + r)) (hi - a (k + r))
  | 0, k, lo, hi => rfl
  | r + 1, k, lo, hi => by
    have e : wyS a (r + 1 + 1) k lo hi = wyS a (r + 1) (k + 1) lo hi + wyS a (r + 1) (k + 1) (lo - a k) (hi - a k) := rfl
    have e1 : ∀ lo hi, wyS a (r + 1) k lo hi = wyS a r (k + 1) lo hi + wyS a r (k + 1) (lo - a k) (hi - a k) := fun _ _ => rfl
    rw [e, wyS_last a r (k + 1), wyS_last a r (k + 1), e1, e1, show k + (r + 1) = k + 1 + r by omega, show lo - a k - a (k + 1 + r) = lo - a (k + 1 + r) - a k by omega, show hi - a k - a (k + 1 + r) = hi - a (k + 1 + r) - a k by omega]
    omega
theorem wyS_le (a : Nat → Int) : ∀ (r k : Nat) (lo hi : Int), wyS a r k lo hi ≤ 2 ^ r
  | 0, k, lo, hi => by unfold wyS; split <;> decide
  | r + 1, k, lo, hi => by
    have h1 := wyS_le a r (k + 1) lo hi
    have h2 := wyS_le a r (k + 1) (lo - a k) (hi - a k)
    have e : wyS a (r + 1) k lo hi = wyS a r (k + 1) lo hi + wyS a r (k + 1) (lo - a k) (hi - a k) := rfl
    rw [e, Nat.pow_succ]
    omega
theorem rsS_nn {a : Nat → Int} : ∀ {r k : Nat}, (∀ i, i < k + r → 0 ≤ a i) → 0 ≤ rsS a r k
  | 0, _, _ => Int.le_refl 0
  | r + 1, k, h => by
    have h1 := rsS_nn (a := a) (r := r) (k := k + 1) fun i hi => h i (by omega)
    have h2 := h k (by omega)
    show 0 ≤ rsS a r (k + 1) + a k
    omega
theorem rsS_last (a : Nat → Int) : ∀ (r k : Nat), rsS a (r + 1) k = rsS a r k + a (k + r)
  | 0, k => by show (0 : Int) + a k = 0 + a (k + 0); rfl
  | r + 1, k => by
    have e : rsS a (r + 1 + 1) k = rsS a (r + 1) (k + 1) + a k := rfl
    have e1 : rsS a (r + 1) k = rsS a r (k + 1) + a k := rfl
    rw [e, rsS_last a r (k + 1), e1, show k + (r + 1) = k + 1 + r by omega]
    omega
theorem wyS_hi {a : Nat → Int} : ∀ {r k : Nat} {lo hi : Int}, (∀ i, i < k + r → 0 ≤ a i) → hi < 0 → wyS a r k lo hi = 0
  | 0, _, lo, hi, _, h => by unfold wyS; rw [ifn (by omega)]
  | r + 1, k, lo, hi, h0, h => by
    have h2 := h0 k (by omega)
    have e : wyS a (r + 1) k lo hi = wyS a r (k + 1) lo hi + wyS a r (k + 1) (lo - a k) (hi - a k) := rfl
    rw [e, wyS_hi (fun i hi => h0 i (by omega)) h, wyS_hi (fun i hi => h0 i (by omega)) (by omega)]
theorem wyS_lo {a : Nat → Int} : ∀ {r k : Nat} {lo hi : Int}, (∀ i, i < k + r → 0 ≤ a i) → rsS a r k < lo → wyS a r k lo hi = 0
  | 0, _, lo, hi, _, h => by
    have h' : (0 : Int) < lo := h
    unfold wyS; rw [ifn (by omega)]
  | r + 1, k, lo, hi, h0, h => by
    have h2 := h0 k (by omega)
    have h' : rsS a r (k + 1) + a k < lo := h
    have e : wyS a (r + 1) k lo hi = wyS a r (k + 1) lo hi + wyS a r (k + 1) (lo - a k) (hi - a k) := rfl
    rw [e, wyS_lo (fun i hi => h0 i (by omega)) (by omega), wyS_lo (fun i hi => h0 i (by omega)) (by omega)]
theorem wyS_all {a : Nat → Int} : ∀ {r k : Nat} {lo hi : Int}, (∀ i, i < k + r → 0 ≤ a i) → lo ≤ 0 → rsS a r k ≤ hi → wyS a r k lo hi = 2 ^ r
  | 0, _, lo, hi, _, h, h1 => by
    have h' : (0 : Int) ≤ hi := h1
    unfold wyS; rw [ifp ⟨h, h'⟩]
  | r + 1, k, lo, hi, h0, h, h1 => by
    have h2 := h0 k (by omega)
    have h' : rsS a r (k + 1) + a k ≤ hi := h1
    have e : wyS a (r + 1) k lo hi = wyS a r (k + 1) lo hi + wyS a r (k + 1) (lo - a k) (hi - a k) := rfl
    rw [e, wyS_all (fun i hi => h0 i (by omega)) h (by omega), wyS_all (fun i hi => h0 i (by omega)) (by omega) (by omega), Nat.pow_succ]
    omega
/-- block by block: those of O, of which gB must say yes -/
def gwS (O gB : Nat → Bool) (s : Nat → Int) : Nat → Int → Int → Nat
  | 0, lo, hi => if lo ≤ 0 ∧ 0 ≤ hi then 1 else 0
  | b + 1, lo, hi => if O b = true then (if gB b = true then gwS O gB s b (lo - s b) (hi - s b) else gwS O gB s b lo hi + gwS O gB s b (lo - s b) (hi - s b)) else gwS O gB s b lo hi
def gmS (O gB : Nat → Bool) (s : Nat → Int) (b : Nat) : Int := sm b (fun x => if (O x && gB x) = true then s x else 0)
theorem gw_wy {O gB : Nat → Bool} {s a : Nat → Int} {m : Nat} (ha : ∀ b, b < m → (O b && !gB b) = true → a (cn b (fun x => O x && !gB x)) = s b) : ∀ (b : Nat) (lo hi : Int), b ≤ m → gwS O gB s b lo hi = wyS a (cn b (fun x => O x && !gB x)) 0 (lo - gmS O gB s b) (hi - gmS O gB s b)
  | 0, lo, hi, _ => by
    show (if lo ≤ 0 ∧ 0 ≤ hi then 1 else 0) = (if lo - 0 ≤ 0 ∧ 0 ≤ hi - 0 then 1 else 0)
    rw [Int.sub_zero, Int.sub_zero]
  | b + 1, lo, hi, hb => by
    have ih := fun lo hi => gw_wy ha b lo hi (by omega)
    have eg : gmS O gB s (b + 1) = gmS O gB s b + (if (O b && gB b) = true then s b else 0) := rfl
    have e : gwS O gB s (b + 1) lo hi = if O b = true then (if gB b = true then gwS O gB s b (lo - s b) (hi - s b) else gwS O gB s b lo hi + gwS O gB s b (lo - s b) (hi - s b)) else gwS O gB s b lo hi := rfl
    rw [e, eg]
    by_cases c : O b = true
    · rw [ifp c]
      by_cases c2 : gB b = true
      · rw [ifp c2, cn_f (show (O b && !gB b) = false by rw [c, c2]; rfl), ifp (show (O b && gB b) = true by rw [c, c2]; rfl), ih, show lo - s b - gmS O gB s b = lo - (gmS O gB s b + s b) by omega, show hi - s b - gmS O gB s b = hi - (gmS O gB s b + s b) by omega]
      · have c3 : (O b && !gB b) = true := by rw [c, show gB b = false by simpa using c2]; rfl
        rw [ifn c2, cn_t c3, ifn (show ¬ (O b && gB b) = true by rw [c, show gB b = false by simpa using c2]; decide), ih, ih, wyS_last, Nat.zero_add, ha b (by omega) c3, Int.add_zero, show lo - gmS O gB s b - s b = lo - s b - gmS O gB s b by omega, show hi - gmS O gB s b - s b = hi - s b - gmS O gB s b by omega]
    · have c' : O b = false := by simpa using c
      rw [ifn c, cn_f (show (O b && !gB b) = false by rw [c']; rfl), ifn (show ¬ (O b && gB b) = true by rw [c', Bool.false_and]; decide), ih, Int.add_zero]
theorem rs_sm {O : Nat → Bool} {s a : Nat → Int} {m : Nat} (ha : ∀ b, b < m → O b = true → a (cn b O) = s b) : ∀ b, b ≤ m → rsS a (cn b O) 0 = sm b (fun x => if O x = true then s x else 0)
  | 0, _ => rfl
  | b + 1, hb => by
    have e : sm (b + 1) (fun x => if O x = true then s x else 0) = sm b (fun x => if O x = true then s x else 0) + (if O b = true then s b else 0) := rfl
    rw [e]
    by_cases c : O b = true
    · rw [cn_t c, rsS_last, Nat.zero_add, rs_sm ha b (by omega), ha b (by omega) c, ifp c]
    · rw [cn_f (by simpa using c), rs_sm ha b (by omega), ifn c, Int.add_zero]
theorem cn_plus (p : Nat → Bool) (a : Nat) : ∀ b : Nat, cn (a + b) p = cn a p + cn b (fun v => p (a + v))
  | 0 => rfl
  | b + 1 => by
    rw [show a + (b + 1) = (a + b) + 1 by omega]
    cases c : p (a + b) with
    | true => rw [cn_t c, cn_t (p := fun v => p (a + v)) c, cn_plus p a b]; omega
    | false => rw [cn_f c, cn_f (p := fun v => p (a + v)) c, cn_plus p a b]
/-- the votes of a set of blocks; what is counted -/
def SbS (O : Nat → Bool) (s : Nat → Int) (b v : Nat) : Int := sm b (fun x => if (O x && v.testBit (cn x O)) = true then s x else 0)
noncomputable def phS (O gB : Nat → Bool) (s : Nat → Int) (b : Nat) (lo hi : Int) : Nat → Bool := fun v => @decide ((∀ g, g < b → O g = true → gB g = true → v.testBit (cn g O) = true) ∧ lo ≤ SbS O s b v ∧ SbS O s b v ≤ hi) (Classical.propDecidable _)
theorem phS_t {O gB : Nat → Bool} {s : Nat → Int} {b : Nat} {lo hi : Int} {v : Nat} : phS O gB s b lo hi v = true ↔ ((∀ g, g < b → O g = true → gB g = true → v.testBit (cn g O) = true) ∧ lo ≤ SbS O s b v ∧ SbS O s b v ≤ hi) := by
  unfold phS
  exact @decide_eq_true_iff _ (Classical.propDecidable _)
theorem ph_gw (O gB : Nat → Bool) (s : Nat → Int) : ∀ (b : Nat) (lo hi : Int), cn (2 ^ cn b O) (phS O gB s b lo hi) = gwS O gB s b lo hi
  | 0, lo, hi => by
    show cn 1 (phS O gB s 0 lo hi) = (if lo ≤ 0 ∧ 0 ≤ hi then 1 else 0)
    by_cases c : lo ≤ 0 ∧ 0 ≤ hi
    · rw [ifp c, cn_t (phS_t.mpr ⟨fun g hg => absurd hg (Nat.not_lt_zero g), c⟩)]; rfl
    · rw [ifn c, cn_f (show phS O gB s 0 lo hi 0 = false by
        cases q : phS O gB s 0 lo hi 0 with
        | false => rfl
        | true => exact absurd (phS_t.mp q).2 c)]; rfl
  | b + 1, lo, hi => by
    have ih := fun lo hi => ph_gw O gB s b lo hi
    have eS : ∀ v, SbS O s (b + 1) v = SbS O s b v + (if (O b && v.testBit (cn b O)) = true then s b else 0) := fun _ => rfl
    have e : gwS O gB s (b + 1) lo hi = if O b = true then (if gB b = true then gwS O gB s b (lo - s b) (hi - s b) else gwS O gB s b lo hi + gwS O gB s b (lo - s b) (hi - s b)) else gwS O gB s b lo hi := rfl
    rw [e]
    by_cases c : O b = true
    · rw [ifp c, cn_t c, Nat.pow_succ, show 2 ^ cn b O * 2 = 2 ^ cn b O + 2 ^ cn b O by omega, cn_plus]
      have h2 : cn (2 ^ cn b O) (fun v => phS O gB s (b + 1) lo hi (2 ^ cn b O + v)) = gwS O gB s b (lo - s b) (hi - s b) := by
        rw [← ih]
        refine cn_congr fun v hv => ?_
        have ht : (2 ^ cn b O + v).testBit (cn b O) = true := by
          rw [Nat.testBit_two_pow_add_eq, Nat.testBit_lt_two_pow hv]; rfl
        have hl : ∀ x, x < b → O x = true → (2 ^ cn b O + v).testBit (cn x O) = v.testBit (cn x O) := fun x hx hO => Nat.testBit_two_pow_add_gt (cn_lt hx hO) v
        have hS : SbS O s b (2 ^ cn b O + v) = SbS O s b v := sm_congr fun x hx => by
          cases q : O x with
          | false => rfl
          | true => rw [hl x hx q]
        rw [Bool.eq_iff_iff, phS_t, phS_t, eS, hS, c, ht, Bool.true_and, ifp rfl]
        constructor
        · rintro ⟨q1, q2, q3⟩
          exact ⟨fun g hg hO hB => by rw [← hl g hg hO]; exact q1 g (by omega) hO hB, by omega, by omega⟩
        · rintro ⟨q1, q2, q3⟩
          refine ⟨fun g hg hO hB => ?_, by omega, by omega⟩
          by_cases z : g = b
          · rw [z]; exact ht
          · rw [hl g (by omega) hO]; exact q1 g (by omega) hO hB
      rw [h2]
      have hf : ∀ v, v < 2 ^ cn b O → v.testBit (cn b O) = false := fun v hv => Nat.testBit_lt_two_pow hv
      by_cases c2 : gB b = true
      · rw [ifp c2]
        have h1 : cn (2 ^ cn b O) (phS O gB s (b + 1) lo hi) = cn (2 ^ cn b O) (fun _ => false) := cn_congr fun v hv => by
          cases q : phS O gB s (b + 1) lo hi v with
          | false => rfl
          | true =>
            have := (phS_t.mp q).1 b (by omega) c c2
            rw [hf v hv] at this; cases this
        rw [h1, cn_no, Nat.zero_add]
      · rw [ifn c2]
        have h1 : cn (2 ^ cn b O) (phS O gB s (b + 1) lo hi) = gwS O gB s b lo hi := by
          rw [← ih]
          refine cn_congr fun v hv => ?_
          rw [Bool.eq_iff_iff, phS_t, phS_t, eS, hf v hv, Bool.and_false, ifn (show ¬ false = true by decide), Int.add_zero]
          constructor
          · rintro ⟨q1, q2⟩
            exact ⟨fun g hg hO hB => q1 g (by omega) hO hB, q2⟩
          · rintro ⟨q1, q2⟩
            refine ⟨fun g hg hO hB => ?_, q2⟩
            by_cases z : g = b
            · rw [z] at hB; exact absurd hB c2
            · exact q1 g (by omega) hO hB
        rw [h1]
    · have c' : O b = false := by simpa using c
      rw [ifn c, cn_f c', ← ih]
      refine cn_congr fun v hv => ?_
      rw [Bool.eq_iff_iff, phS_t, phS_t, eS, c', Bool.false_and, ifn (show ¬ false = true by decide), Int.add_zero]
      constructor
      · rintro ⟨q1, q2⟩
        exact ⟨fun g hg hO hB => q1 g (by omega) hO hB, q2⟩
      · rintro ⟨q1, q2⟩
        refine ⟨fun g hg hO hB => ?_, q2⟩
        by_cases z : g = b
        · rw [z, c'] at hO; cases hO
        · exact q1 g (by omega) hO hB
/-- sums by holders are sums by blocks -/
theorem sm_pt (j : Nat) (x : Int) {k : Nat} (hj : j < k) : sm k (fun b => if b = j then x else 0) = x := by
  have h := sm_upd (fun _ => 0) j x k
  rw [sm_zero (g := fun _ => 0) (fun _ _ => rfl), ifp hj] at h
  rw [h]; omega
theorem sm_swap (V : Nat → Int) (vo : Nat → Nat) (c : Nat → Bool) {m : Nat} : ∀ H : Nat, (∀ h, h < H → vo h < m) → sm H (fun h => if c (vo h) = true then V h else 0) = sm m (fun b => if c b = true then sm H (fun h => if vo h = b then V h else 0) else 0)
  | 0, _ => by
    rw [sm_zero (k := m) (fun b _ => by
      show (if c b = true then sm 0 _ else 0) = 0
      split
      · rfl
      · rfl)]
    rfl
  | H + 1, hv => by
    have e1 : sm (H + 1) (fun h => if c (vo h) = true then V h else 0) = sm H (fun h => if c (vo h) = true then V h else 0) + (if c (vo H) = true then V H else 0) := rfl
    have e2 : sm m (fun b => if c b = true then sm (H + 1) (fun h => if vo h = b then V h else 0) else 0) = sm m (fun b => (if c b = true then sm H (fun h => if vo h = b then V h else 0) else 0) + (if b = vo H then (if c (vo H) = true then V H else 0) else 0)) := sm_congr fun b _ => by
      have e3 : sm (H + 1) (fun h => if vo h = b then V h else 0) = sm H (fun h => if vo h = b then V h else 0) + (if vo H = b then V H else 0) := rfl
      rw [e3]
      by_cases q : b = vo H
      · subst q
        rw [ifp (show vo H = vo H from rfl), ifp (show vo H = vo H from rfl)]
        by_cases w : c (vo H) = true
        · rw [ifp w, ifp w, ifp w]
        · rw [ifn w, ifn w, ifn w]; rfl
      · rw [ifn (show ¬ vo H = b from fun z => q z.symm), ifn q, Int.add_zero, Int.add_zero]
    rw [e1, e2, sm_add, sm_pt _ _ (hv H (by omega)), sm_swap V vo c H fun h hh => hv h (by omega)]
