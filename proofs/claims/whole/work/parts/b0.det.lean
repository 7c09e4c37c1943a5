/-! Determinants by their first row; columns. -/
def skp (j c : Nat) : Nat := if c < j then c else c + 1
def sgN (j : Nat) : Int := if j % 2 = 0 then 1 else -1
def dtm : Nat → (Nat → Nat → Int) → Int
  | 0, _ => 1
  | n + 1, M => sm (n + 1) (fun j => sgN j * M 0 j * dtm n (fun r c => M (r + 1) (skp j c)))
def cst (M : Nat → Nat → Int) (t : Nat) (u : Nat → Int) : Nat → Nat → Int := fun r c => if c = t then u r else M r c
theorem sgN_s (j : Nat) : sgN (j + 1) = -sgN j := by
  unfold sgN
  by_cases c : j % 2 = 0
  · rw [ifp c, ifn (by omega)]
  · rw [ifn c, ifp (by omega)]; rfl
theorem sm_lin (x y : Int) (f g : Nat → Int) : ∀ k : Nat, sm k (fun i => x * f i + y * g i) = x * sm k f + y * sm k g
  | 0 => by show (0 : Int) = x * 0 + y * 0; omega
  | k + 1 => by
    have e : sm (k + 1) (fun i => x * f i + y * g i) = sm k (fun i => x * f i + y * g i) + (x * f k + y * g k) := rfl
    have e1 : sm (k + 1) f = sm k f + f k := rfl
    have e2 : sm (k + 1) g = sm k g + g k := rfl
    rw [e, e1, e2, sm_lin x y f g k]
    grind
theorem dtm_congr : ∀ {n : Nat} {M M' : Nat → Nat → Int}, (∀ r c, r < n → c < n → M r c = M' r c) → dtm n M = dtm n M'
  | 0, _, _, _ => rfl
  | n + 1, M, M', h => sm_congr fun j hj => by
    rw [h 0 j (by omega) hj, dtm_congr (n := n) fun r c hr hc => h (r + 1) (skp j c) (by omega) (by unfold skp; split <;> omega)]
theorem dtm_lin : ∀ {n t : Nat} (M : Nat → Nat → Int) (x y : Int) (u v : Nat → Int), t < n → dtm n (cst M t (fun r => x * u r + y * v r)) = x * dtm n (cst M t u) + y * dtm n (cst M t v)
  | 0, t, _, _, _, _, _, h => absurd h (Nat.not_lt_zero t)
  | n + 1, t, M, x, y, u, v, h => by
    unfold dtm
    rw [← sm_lin]
    refine sm_congr fun j hj => ?_
    by_cases e : j = t
    · subst e
      have m1 : ∀ w : Nat → Int, (fun r c => cst M j w (r + 1) (skp j c)) = (fun r c => M (r + 1) (skp j c)) := fun w => by
        funext r c
        unfold cst
        rw [ifn (show ¬ skp j c = j by unfold skp; split <;> omega)]
      have m2 : ∀ w : Nat → Int, cst M j w 0 j = w 0 := fun w => by unfold cst; rw [ifp rfl]
      rw [m1, m1, m1, m2, m2, m2]
      grind
    · have hs : ∀ c, skp j c = t ↔ c = (if t < j then t else t - 1) := fun c => by unfold skp; split <;> split <;> omega
      have m1 : ∀ w : Nat → Int, (fun r c => cst M t w (r + 1) (skp j c)) = cst (fun r c => M (r + 1) (skp j c)) (if t < j then t else t - 1) (fun r => w (r + 1)) := fun w => by
        funext r c
        unfold cst
        by_cases q : skp j c = t
        · rw [ifp q, ifp ((hs c).mp q)]
        · rw [ifn q, ifn (fun z => q ((hs c).mpr z))]
      have m2 : ∀ w : Nat → Int, cst M t w 0 j = M 0 j := fun w => by unfold cst; rw [ifn e]
      have hlt : (if t < j then t else t - 1) < n := by split <;> omega
      rw [m1, m1, m1, m2, m2, m2, dtm_lin (n := n) _ x y (fun r => u (r + 1)) (fun r => v (r + 1)) hlt]
      grind
theorem dtm_adj : ∀ {n t : Nat} {M : Nat → Nat → Int}, t + 1 < n → (∀ r, M r t = M r (t + 1)) → dtm n M = 0
  | 0, t, _, h, _ => absurd h (Nat.not_lt_zero _)
  | n + 1, t, M, h, he => by
    unfold dtm
    have m0 : (fun r c => M (r + 1) (skp t c)) = (fun r c => M (r + 1) (skp (t + 1) c)) := by
      funext r c
      by_cases q : c = t
      · rw [show skp t c = t + 1 by unfold skp; split <;> omega, show skp (t + 1) c = t by unfold skp; split <;> omega, he (r + 1)]
      · rw [show skp t c = skp (t + 1) c by unfold skp; split <;> split <;> omega]
    have e1 : sm (n + 1) (fun j => sgN j * M 0 j * dtm n (fun r c => M (r + 1) (skp j c))) = sm (n + 1) (fun j => (if j = t then sgN t * M 0 t * dtm n (fun r c => M (r + 1) (skp t c)) else 0) + (if j = t + 1 then sgN (t + 1) * M 0 (t + 1) * dtm n (fun r c => M (r + 1) (skp (t + 1) c)) else 0)) := sm_congr fun j hj => by
      by_cases q1 : j = t
      · rw [ifp q1, ifn (by omega), q1, Int.add_zero]
      · by_cases q2 : j = t + 1
        · rw [ifn q1, ifp q2, q2, Int.zero_add]
        · rw [ifn q1, ifn q2]
          have hz : dtm n (fun r c => M (r + 1) (skp j c)) = 0 := by
            by_cases q3 : j < t
            · obtain ⟨t', rfl⟩ : ∃ t', t = t' + 1 := ⟨t - 1, by omega⟩
              refine dtm_adj (t := t') (by omega) fun r => ?_
              show M (r + 1) (skp j t') = M (r + 1) (skp j (t' + 1))
              rw [show skp j t' = t' + 1 by unfold skp; split <;> omega, show skp j (t' + 1) = t' + 1 + 1 by unfold skp; split <;> omega, he (r + 1)]
            · refine dtm_adj (t := t) (by omega) fun r => ?_
              show M (r + 1) (skp j t) = M (r + 1) (skp j (t + 1))
              rw [show skp j t = t by unfold skp; split <;> omega, show skp j (t + 1) = t + 1 by unfold skp; split <;> omega, he (r + 1)]
          rw [hz, Int.mul_zero]; rfl
    rw [e1, sm_add, sm_pt _ _ (by omega), sm_pt _ _ h, m0, he 0, sgN_s]
    grind
theorem cst_c {M : Nat → Nat → Int} {a b : Nat} (h : a ≠ b) (u v : Nat → Int) : cst (cst M a u) b v = cst (cst M b v) a u := by
  funext r c
  unfold cst
  by_cases q1 : c = b
  · rw [ifp q1, ifn (by omega), ifp q1]
  · rw [ifn q1, ifn q1]
theorem dtm_lin2 {n a b : Nat} (M : Nat → Nat → Int) (h : a ≠ b) (ha : a < n) (x y : Int) (u v w : Nat → Int) : dtm n (cst (cst M a (fun r => x * u r + y * v r)) b w) = x * dtm n (cst (cst M a u) b w) + y * dtm n (cst (cst M a v) b w) := by
  rw [cst_c h, cst_c h, cst_c h]
  exact dtm_lin _ x y u v ha
theorem cst_same (M : Nat → Nat → Int) (t : Nat) : cst M t (fun r => M r t) = M := by
  funext r c
  unfold cst
  by_cases q : c = t
  · rw [ifp q, q]
  · rw [ifn q]
/-- two columns alike -/
theorem dtm_eqc : ∀ (d : Nat) {n s : Nat} {M : Nat → Nat → Int}, s + d + 1 < n → (∀ r, M r s = M r (s + d + 1)) → dtm n M = 0
  | 0, n, s, M, h, he => dtm_adj h he
  | d + 1, n, s, M, h, he => by
    have hne : s + d + 1 ≠ s + d + 2 := by omega
    have swp : ∀ u v : Nat → Int, dtm n (cst (cst M (s + d + 1) u) (s + d + 2) v) = -dtm n (cst (cst M (s + d + 1) v) (s + d + 2) u) := fun u v => by
      have adj : ∀ w : Nat → Int, dtm n (cst (cst M (s + d + 1) w) (s + d + 2) w) = 0 := fun w => dtm_adj (t := s + d + 1) (by omega) fun r => by
        unfold cst
        rw [ifn hne, ifp rfl, ifp rfl]
      have h0 := adj (fun r => 1 * u r + 1 * v r)
      rw [dtm_lin2 M hne (by omega), dtm_lin _ 1 1 u v (by omega), dtm_lin _ 1 1 u v (by omega), adj u, adj v] at h0
      omega
    have e1 : M = cst (cst M (s + d + 1) (fun r => M r (s + d + 1))) (s + d + 2) (fun r => M r (s + d + 2)) := by
      rw [cst_same, cst_same]
    rw [e1, swp]
    have h0 : dtm n (cst (cst M (s + d + 1) (fun r => M r (s + d + 2))) (s + d + 2) (fun r => M r (s + d + 1))) = 0 := dtm_eqc d (s := s) (by omega) fun r => by
      unfold cst
      rw [ifn (by omega), ifn (by omega), ifn (by omega), ifp (by omega)]
      exact he r
    rw [h0]; rfl
theorem dtm_eq2 {n s t : Nat} {M : Nat → Nat → Int} (h : s < t) (ht : t < n) (he : ∀ r, M r s = M r t) : dtm n M = 0 :=
  dtm_eqc (t - s - 1) (s := s) (by omega) fun r => by rw [show s + (t - s - 1) + 1 = t by omega]; exact he r
theorem sm_mul (x : Int) (f : Nat → Int) (k : Nat) : sm k (fun i => x * f i) = x * sm k f := by
  have h := sm_lin x 0 f (fun _ => 0) k
  have e : sm k (fun i => x * f i) = sm k (fun i => x * f i + 0 * 0) := sm_congr fun i _ => by omega
  rw [e, h]; omega
/-- the last column is 0 but for its end -/
theorem dtm_last : ∀ {n : Nat} {M : Nat → Nat → Int}, (∀ r, r < n → M r n = 0) → dtm (n + 1) M = M n n * dtm n M
  | 0, M, _ => by
    show (0 : Int) + sgN 0 * M 0 0 * 1 = M 0 0 * 1
    rw [show sgN 0 = 1 from rfl]; omega
  | n + 1, M, h => by
    have e : dtm (n + 1 + 1) M = sm (n + 1) (fun j => sgN j * M 0 j * dtm (n + 1) (fun r c => M (r + 1) (skp j c))) + sgN (n + 1) * M 0 (n + 1) * dtm (n + 1) (fun r c => M (r + 1) (skp (n + 1) c)) := rfl
    have e1 : sm (n + 1) (fun j => sgN j * M 0 j * dtm (n + 1) (fun r c => M (r + 1) (skp j c))) = sm (n + 1) (fun j => M (n + 1) (n + 1) * (sgN j * M 0 j * dtm n (fun r c => M (r + 1) (skp j c)))) := sm_congr fun j hj => by
      have hk : skp j n = n + 1 := by unfold skp; split <;> omega
      rw [dtm_last (n := n) fun r hr => by show M (r + 1) (skp j n) = 0; rw [hk]; exact h (r + 1) (by omega)]
      show sgN j * M 0 j * (M (n + 1) (skp j n) * _) = _
      rw [hk]
      grind
    rw [e, e1, sm_mul, h 0 (by omega)]
    show _ = M (n + 1) (n + 1) * sm (n + 1) _
    grind
theorem sm_skp {j : Nat} (g : Nat → Int) : ∀ {n : Nat}, j ≤ n → sm n (fun c => g (skp j c)) + g j = sm (n + 1) g
  | 0, h => by
    have : j = 0 := by omega
    rw [this]; rfl
  | n + 1, h => by
    have e : sm (n + 1 + 1) g = sm (n + 1) g + g (n + 1) := rfl
    by_cases q : j = n + 1
    · rw [e, q]
      congr 1
      exact sm_congr fun c hc => by rw [show skp (n + 1) c = c by unfold skp; split <;> omega]
    · have e1 : sm (n + 1) (fun c => g (skp j c)) = sm n (fun c => g (skp j c)) + g (skp j n) := rfl
      have I := sm_skp (j := j) g (n := n) (by omega)
      rw [e, e1, show skp j n = n + 1 by unfold skp; split <;> omega]
      omega
/-- no larger than the rows allow -/
theorem sm_ab (B : Int) : ∀ (k : Nat) (g a : Nat → Int), (∀ i, i < k → 0 ≤ a i ∧ -(a i * B) ≤ g i ∧ g i ≤ a i * B) → -(sm k a * B) ≤ sm k g ∧ sm k g ≤ sm k a * B
  | 0, g, a, _ => by show -(0 * B) ≤ (0 : Int) ∧ (0 : Int) ≤ 0 * B; omega
  | k + 1, g, a, h => by
    have I := sm_ab B k g a fun i hi => h i (by omega)
    have h1 := h k (by omega)
    have e1 : sm (k + 1) g = sm k g + g k := rfl
    have e2 : sm (k + 1) a = sm k a + a k := rfl
    rw [e1, e2, Int.add_mul]
    omega
def abI (x : Int) : Int := if x < 0 then -x else x
theorem abI_nn (x : Int) : 0 ≤ abI x := by unfold abI; split <;> omega
theorem abI_le (x : Int) : -abI x ≤ x ∧ x ≤ abI x := by unfold abI; split <;> omega
theorem dtm_le {K : Int} (hK : 0 ≤ K) : ∀ {n : Nat} {M : Nat → Nat → Int}, (∀ r, r < n → sm n (fun c => abI (M r c)) ≤ K) → -(K ^ n) ≤ dtm n M ∧ dtm n M ≤ K ^ n
  | 0, M, _ => by show -((K : Int) ^ 0) ≤ 1 ∧ (1 : Int) ≤ K ^ 0; rw [Int.pow_zero]; omega
  | n + 1, M, h => by
    have hp : 0 ≤ K ^ n := Int.pow_nonneg hK
    have h0 := h 0 (by omega)
    have h1 := sm_ab (K ^ n) (n + 1) (fun j => sgN j * M 0 j * dtm n (fun r c => M (r + 1) (skp j c))) (fun c => abI (M 0 c)) fun j hj => by
      have I := dtm_le hK (n := n) (M := fun r c => M (r + 1) (skp j c)) fun r hr => by
        have e := sm_skp (j := j) (fun c => abI (M (r + 1) c)) (n := n) (by omega)
        have q := h (r + 1) (by omega)
        have q2 := abI_nn (M (r + 1) j)
        show sm n (fun c => abI (M (r + 1) (skp j c))) ≤ K
        omega
      generalize dtm n (fun r c => M (r + 1) (skp j c)) = D at I
      refine ⟨abI_nn _, ?_⟩
      have hx : ∀ x : Int, -(abI x * K ^ n) ≤ x * D ∧ x * D ≤ abI x * K ^ n := fun x => by
        unfold abI
        by_cases c : x < 0
        · rw [ifp c]
          have a1 : (-x) * D ≤ (-x) * K ^ n := Int.mul_le_mul_of_nonneg_left I.2 (by omega)
          have a2 : (-x) * (-(K ^ n)) ≤ (-x) * D := Int.mul_le_mul_of_nonneg_left I.1 (by omega)
          rw [Int.neg_mul] at a1
          rw [Int.mul_neg, Int.neg_mul (b := D)] at a2
          omega
        · rw [ifn c]
          have a1 : x * D ≤ x * K ^ n := Int.mul_le_mul_of_nonneg_left I.2 (by omega)
          have a2 : x * (-(K ^ n)) ≤ x * D := Int.mul_le_mul_of_nonneg_left I.1 (by omega)
          rw [Int.mul_neg] at a2
          omega
      have h2 := hx (M 0 j)
      unfold sgN
      by_cases c : j % 2 = 0
      · rw [ifp c, Int.one_mul]; exact h2
      · rw [ifn c, Int.neg_mul, Int.neg_mul, Int.one_mul]; omega
    have h3 : sm (n + 1) (fun c => abI (M 0 c)) * K ^ n ≤ K * K ^ n := Int.mul_le_mul_of_nonneg_right h0 hp
    rw [Int.pow_succ, Int.mul_comm (K ^ n) K]
    show -(K * K ^ n) ≤ sm (n + 1) _ ∧ sm (n + 1) _ ≤ K * K ^ n
    omega
