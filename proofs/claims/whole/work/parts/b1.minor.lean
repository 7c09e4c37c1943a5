/-! Bordered minors; elimination by columns. -/
section
variable {A : Nat → Nat → Int}
def rwi (k i r : Nat) : Nat := if r < k then r else i
def Dk (A : Nat → Nat → Int) (k : Nat) : Int := dtm k A
/-- rows 0 .. k-1 and i; columns 0 .. k-1 and u -/
def Bv (A : Nat → Nat → Int) (k i : Nat) (u : Nat → Int) : Int := dtm (k + 1) (cst (fun r c => A (rwi k i r) c) k (fun r => u (rwi k i r)))
/-- the first k rows and columns, u for column q -/
def Gv (A : Nat → Nat → Int) (k q : Nat) (u : Nat → Int) : Int := dtm k (cst A q u)
def Bm (A : Nat → Nat → Int) (k i j : Nat) : Int := Bv A k i (fun r => A r j)
def Gmn (A : Nat → Nat → Int) (k q j : Nat) : Int := Gv A k q (fun r => A r j)
theorem Bv_lin (k i : Nat) (x y : Int) (u v : Nat → Int) : Bv A k i (fun r => x * u r + y * v r) = x * Bv A k i u + y * Bv A k i v := dtm_lin _ x y (fun r => u (rwi k i r)) (fun r => v (rwi k i r)) (by omega)
theorem Gv_lin {k q : Nat} (hq : q < k) (x y : Int) (u v : Nat → Int) : Gv A k q (fun r => x * u r + y * v r) = x * Gv A k q u + y * Gv A k q v := dtm_lin A x y u v hq
theorem Bm_lt {k i j : Nat} (h : j < k) : Bm A k i j = 0 := dtm_eq2 (s := j) (t := k) h (by omega) fun r => by
  unfold cst
  rw [ifn (by omega), ifp rfl]
theorem Bv_z {k i : Nat} {u : Nat → Int} (h : ∀ r, r < k → u r = 0) : Bv A k i u = u i * Dk A k := by
  unfold Bv
  rw [dtm_last fun r hr => by
    show (if k = k then u (rwi k i r) else A (rwi k i r) k) = 0
    rw [ifp rfl]
    unfold rwi
    rw [ifp hr]
    exact h r hr]
  have e0 : rwi k i k = i := by unfold rwi; rw [ifn (Nat.lt_irrefl k)]
  show (if k = k then u (rwi k i k) else A (rwi k i k) k) * dtm k (fun r c => if c = k then u (rwi k i r) else A (rwi k i r) c) = _
  rw [ifp rfl, e0]
  congr 1
  exact dtm_congr fun r c hr hc => by
    rw [ifn (show ¬ c = k by omega)]
    unfold rwi
    rw [ifp hr]
theorem Gv_z {k q : Nat} (hq : q < k) {u : Nat → Int} (h : ∀ r, r < k → u r = 0) : Gv A k q u = 0 := by
  have e1 : Gv A k q u = Gv A k q (fun r => 0 * u r + 0 * u r) := dtm_congr fun r c hr hc => by
    unfold cst
    split
    · show u r = 0 * u r + 0 * u r
      rw [h r hr]; omega
    · rfl
  rw [e1, Gv_lin hq]; omega
theorem Gm_lt {k q j : Nat} (hq : q < k) (h : j < k) (hne : j ≠ q) : Gmn A k q j = 0 := by
  have e : ∀ r, cst A q (fun r => A r j) r q = cst A q (fun r => A r j) r j := fun r => by unfold cst; rw [ifp rfl, ifn hne]
  rcases Nat.lt_or_gt_of_ne hne with w | w
  · exact dtm_eq2 w hq fun r => (e r).symm
  · exact dtm_eq2 w h e
theorem Gm_s {k q : Nat} : Gmn A k q q = Dk A k := by
  unfold Gmn Gv Dk
  rw [cst_same]
theorem rwi_k {k r : Nat} (hr : r < k + 1) : rwi k k r = r := by unfold rwi; split <;> omega
theorem Bm_kk (k : Nat) : Bm A k k k = Dk A (k + 1) := dtm_congr fun r c hr hc => by
  show (if c = k then A (rwi k k r) k else A (rwi k k r) c) = A r c
  rw [rwi_k hr]
  split
  · rename_i q; rw [q]
  · rfl
theorem Gmn_B (k j : Nat) : Gmn A (k + 1) k j = Bm A k k j := dtm_congr fun r c hr hc => by
  show (if c = k then A r j else A r c) = (if c = k then A (rwi k k r) j else A (rwi k k r) c)
  rw [rwi_k hr]
theorem F_comb {F : (Nat → Int) → Int} (hF : ∀ x y u v, F (fun r => x * u r + y * v r) = x * F u + y * F v) (m : Int) (v l : Nat → Int) : ∀ k : Nat, F (fun r => m * v r + sm k (fun t => l t * A r t)) = m * F v + sm k (fun t => l t * F (fun r => A r t))
  | 0 => by
    have e : (fun r => m * v r + sm 0 (fun t => l t * A r t)) = (fun r => m * v r + 0 * v r) := by
      funext r
      show m * v r + 0 = _
      omega
    rw [e, hF]
    show m * F v + 0 * F v = m * F v + 0
    omega
  | k + 1 => by
    have e : (fun r => m * v r + sm (k + 1) (fun t => l t * A r t)) = (fun r => 1 * (m * v r + sm k (fun t => l t * A r t)) + l k * A r k) := by
      funext r
      show m * v r + (sm k (fun t => l t * A r t) + l k * A r k) = _
      omega
    have e2 : sm (k + 1) (fun t => l t * F (fun r => A r t)) = sm k (fun t => l t * F (fun r => A r t)) + l k * F (fun r => A r k) := rfl
    rw [e, hF 1 (l k) (fun r => m * v r + sm k (fun t => l t * A r t)) (fun r => A r k), F_comb hF m v l k, e2]
    omega
theorem Bv_comb (k i : Nat) (m : Int) (v l : Nat → Int) : Bv A k i (fun r => m * v r + sm k (fun t => l t * A r t)) = m * Bv A k i v := by
  rw [F_comb (Bv_lin k i) m v l k, sm_zero fun t ht => by
    have : Bv A k i (fun r => A r t) = 0 := Bm_lt ht
    rw [this, Int.mul_zero], Int.add_zero]
theorem Gv_comb {k q : Nat} (hq : q < k) (m : Int) (v l : Nat → Int) : Gv A k q (fun r => m * v r + sm k (fun t => l t * A r t)) = m * Gv A k q v + l q * Dk A k := by
  have e : sm k (fun t => l t * Gv A k q (fun r => A r t)) = sm k (fun t => if t = q then l q * Dk A k else 0) := sm_congr fun t ht => by
    by_cases z : t = q
    · rw [ifp z, z]
      have : Gv A k q (fun r => A r q) = Dk A k := Gm_s
      rw [this]
    · rw [ifn z]
      have : Gv A k q (fun r => A r t) = 0 := Gm_lt hq ht z
      rw [this, Int.mul_zero]
  rw [F_comb (Gv_lin hq) m v l k, e, sm_pt _ _ hq]
/-- a column made 0 on the first k rows -/
theorem elim_ex : ∀ (k : Nat), (∀ s, s ≤ k → Dk A s ≠ 0) → ∀ v : Nat → Int, ∃ (m : Int) (l : Nat → Int), m ≠ 0 ∧ ∀ r, r < k → m * v r + sm k (fun t => l t * A r t) = 0
  | 0, _, v => ⟨1, fun _ => 0, by decide, fun r hr => absurd hr (Nat.not_lt_zero r)⟩
  | k + 1, hD, v => by
    have ih := elim_ex k fun s hs => hD s (by omega)
    obtain ⟨m, l, m0, hl⟩ := ih v
    obtain ⟨n, c, n0, hc⟩ := ih (fun r => A r k)
    have e1 := Bv_comb (A := A) k k n (fun r => A r k) c
    rw [Bv_z hc] at e1
    have e2 : Bv A k k (fun r => A r k) = Dk A (k + 1) := Bm_kk k
    rw [e2] at e1
    have hD1 := hD (k + 1) (Nat.le_refl _)
    have hu : n * A k k + sm k (fun t => c t * A k t) ≠ 0 := fun z => by
      rw [z, Int.zero_mul] at e1
      rcases Int.mul_eq_zero.mp e1.symm with w | w
      · exact n0 w
      · exact hD1 w
    refine ⟨(n * A k k + sm k (fun t => c t * A k t)) * m, fun t => if t = k then -(m * v k + sm k (fun t => l t * A k t)) * n else (n * A k k + sm k (fun t => c t * A k t)) * l t - (m * v k + sm k (fun t => l t * A k t)) * c t, fun z => ?_, fun r hr => ?_⟩
    · rcases Int.mul_eq_zero.mp z with w | w
      · exact hu w
      · exact m0 w
    · have key : ∀ U V : Int, U * m * v r + sm (k + 1) (fun t => (if t = k then -V * n else U * l t - V * c t) * A r t) = U * (m * v r + sm k (fun t => l t * A r t)) - V * (n * A r k + sm k (fun t => c t * A r t)) := fun U V => by
        have e3 : sm (k + 1) (fun t => (if t = k then -V * n else U * l t - V * c t) * A r t) = sm k (fun t => U * (l t * A r t) + -V * (c t * A r t)) + -V * n * A r k := by
          have e4 : sm k (fun t => (if t = k then -V * n else U * l t - V * c t) * A r t) = sm k (fun t => U * (l t * A r t) + -V * (c t * A r t)) := sm_congr fun t ht => by
            rw [ifn (show ¬ t = k by omega)]; grind
          show sm k (fun t => (if t = k then -V * n else U * l t - V * c t) * A r t) + (if k = k then -V * n else U * l k - V * c k) * A r k = _
          rw [e4, ifp rfl]
        rw [e3, sm_lin]
        grind
      rw [key]
      by_cases q : r < k
      · rw [hl r q, hc r q]; omega
      · have : r = k := by omega
        subst this
        grind
/-- how the bordered minors go on: fraction-free elimination -/
theorem B_step {k : Nat} (hD : ∀ s, s ≤ k + 1 → Dk A s ≠ 0) (i j : Nat) : Dk A k * Bm A (k + 1) i j = Bm A k k k * Bm A k i j - Bm A k i k * Bm A k k j := by
  obtain ⟨m, l, m0, hl⟩ := elim_ex (A := A) k (fun s hs => hD s (by omega)) (fun r => A r j)
  obtain ⟨n, c, n0, hc⟩ := elim_ex (A := A) k (fun s hs => hD s (by omega)) (fun r => A r k)
  have hv : ∀ i, m * Bm A k i j = (m * A i j + sm k (fun t => l t * A i t)) * Dk A k := fun i => by
    have := Bv_comb (A := A) k i m (fun r => A r j) l
    rw [Bv_z hl] at this
    exact this.symm
  have hu : ∀ i, n * Bm A k i k = (n * A i k + sm k (fun t => c t * A i t)) * Dk A k := fun i => by
    have := Bv_comb (A := A) k i n (fun r => A r k) c
    rw [Bv_z hc] at this
    exact this.symm
  generalize hV : (fun i => m * A i j + sm k (fun t => l t * A i t)) = V at hv
  generalize hU : (fun i => n * A i k + sm k (fun t => c t * A i t)) = U at hu
  have hVi : ∀ i, m * A i j + sm k (fun t => l t * A i t) = V i := fun i => by rw [← hV]
  have hUi : ∀ i, n * A i k + sm k (fun t => c t * A i t) = U i := fun i => by rw [← hU]
  have hv' : ∀ i, m * Bm A k i j = V i * Dk A k := fun i => by rw [hv i, hVi]
  have hu' : ∀ i, n * Bm A k i k = U i * Dk A k := fun i => by rw [hu i, hUi]
  -- the combination
  have hw : U k * m * Bm A (k + 1) i j = (U k * V i - V k * U i) * Dk A (k + 1) := by
    have e1 := Bv_comb (A := A) (k + 1) i (U k * m) (fun r => A r j) (fun t => if t = k then -V k * n else U k * l t - V k * c t)
    have key : ∀ r, U k * m * A r j + sm (k + 1) (fun t => (if t = k then -V k * n else U k * l t - V k * c t) * A r t) = U k * V r - V k * U r := fun r => by
      have e3 : sm (k + 1) (fun t => (if t = k then -V k * n else U k * l t - V k * c t) * A r t) = sm k (fun t => U k * (l t * A r t) + -V k * (c t * A r t)) + -V k * n * A r k := by
        have e4 : sm k (fun t => (if t = k then -V k * n else U k * l t - V k * c t) * A r t) = sm k (fun t => U k * (l t * A r t) + -V k * (c t * A r t)) := sm_congr fun t ht => by
          rw [ifn (show ¬ t = k by omega)]; grind
        show sm k (fun t => (if t = k then -V k * n else U k * l t - V k * c t) * A r t) + (if k = k then -V k * n else U k * l k - V k * c k) * A r k = _
        rw [e4, ifp rfl]
      rw [e3, sm_lin, ← hVi r, ← hUi r]
      grind
    have hz : ∀ r, r < k + 1 → U k * m * A r j + sm (k + 1) (fun t => (if t = k then -V k * n else U k * l t - V k * c t) * A r t) = 0 := fun r hr => by
      rw [key r]
      by_cases q : r < k
      · have h1 : V r = 0 := by rw [← hVi r]; exact hl r q
        have h2 : U r = 0 := by rw [← hUi r]; exact hc r q
        rw [h1, h2]; omega
      · have : r = k := by omega
        subst this
        grind
    rw [Bv_z hz, key i] at e1
    exact e1.symm
  have hkk := Bm_kk (A := A) k
  have h1 := hv' i
  have h2 := hv' k
  have h3 := hu' i
  have h4 := hu' k
  have hD1 := hD (k + 1) (Nat.le_refl _)
  have hDk := hD k (by omega)
  have uk0 : U k ≠ 0 := fun z => by
    rw [z, hkk, Int.zero_mul] at h4
    rcases Int.mul_eq_zero.mp h4 with w | w
    · exact n0 w
    · exact hD1 w
  have fin : (n * m * U k) * (Dk A k * Bm A (k + 1) i j) = (n * m * U k) * (Bm A k k k * Bm A k i j - Bm A k i k * Bm A k k j) := by
    rw [← hkk] at hw
    generalize Bm A (k + 1) i j = B' at hw ⊢
    generalize Bm A k i j = Bij at h1 ⊢
    generalize Bm A k k j = Bkj at h2 ⊢
    generalize Bm A k i k = Bik at h3 ⊢
    generalize Bm A k k k = Bkk at h4 hw ⊢
    generalize Dk A k = D at h1 h2 h3 h4 ⊢
    generalize U k = uk at *
    generalize V k = vk at *
    generalize U i = ui at *
    generalize V i = vi at *
    clear hV hU hVi hUi hv' hu' hv hu hl hc hD hD1 hkk hDk
    grind
  exact Int.eq_of_mul_eq_mul_left (fun z => by
    rcases Int.mul_eq_zero.mp z with w | w
    · rcases Int.mul_eq_zero.mp w with w | w
      · exact n0 w
      · exact m0 w
    · exact uk0 w) fin
/-- the same for a row that has been solved -/
theorem G_step {k : Nat} (hD : ∀ s, s ≤ k + 1 → Dk A s ≠ 0) {q : Nat} (hq : q < k) (j : Nat) : Dk A k * Gmn A (k + 1) q j = Bm A k k k * Gmn A k q j - Gmn A k q k * Bm A k k j := by
  obtain ⟨m, l, m0, hl⟩ := elim_ex (A := A) k (fun s hs => hD s (by omega)) (fun r => A r j)
  obtain ⟨n, c, n0, hc⟩ := elim_ex (A := A) k (fun s hs => hD s (by omega)) (fun r => A r k)
  have h2 : m * Bm A k k j = (m * A k j + sm k (fun t => l t * A k t)) * Dk A k := by
    have := Bv_comb (A := A) k k m (fun r => A r j) l
    rw [Bv_z hl] at this
    exact this.symm
  have h4 : n * Bm A k k k = (n * A k k + sm k (fun t => c t * A k t)) * Dk A k := by
    have := Bv_comb (A := A) k k n (fun r => A r k) c
    rw [Bv_z hc] at this
    exact this.symm
  have g1 : m * Gmn A k q j + l q * Dk A k = 0 := by
    have := Gv_comb (A := A) hq m (fun r => A r j) l
    rw [Gv_z hq hl] at this
    exact this.symm
  have g2 : n * Gmn A k q k + c q * Dk A k = 0 := by
    have := Gv_comb (A := A) hq n (fun r => A r k) c
    rw [Gv_z hq hc] at this
    exact this.symm
  have hv0 : ∀ r, r < k → m * A r j + sm k (fun t => l t * A r t) = 0 := hl
  have hu0 : ∀ r, r < k → n * A r k + sm k (fun t => c t * A r t) = 0 := hc
  generalize hV : m * A k j + sm k (fun t => l t * A k t) = vk at h2
  generalize hU : n * A k k + sm k (fun t => c t * A k t) = uk at h4
  have hw : uk * m * Gmn A (k + 1) q j + (uk * l q - vk * c q) * Dk A (k + 1) = 0 := by
    have e1 := Gv_comb (A := A) (k := k + 1) (q := q) (by omega) (uk * m) (fun r => A r j) (fun t => if t = k then -vk * n else uk * l t - vk * c t)
    have key : ∀ r, uk * m * A r j + sm (k + 1) (fun t => (if t = k then -vk * n else uk * l t - vk * c t) * A r t) = uk * (m * A r j + sm k (fun t => l t * A r t)) - vk * (n * A r k + sm k (fun t => c t * A r t)) := fun r => by
      have e3 : sm (k + 1) (fun t => (if t = k then -vk * n else uk * l t - vk * c t) * A r t) = sm k (fun t => uk * (l t * A r t) + -vk * (c t * A r t)) + -vk * n * A r k := by
        have e4 : sm k (fun t => (if t = k then -vk * n else uk * l t - vk * c t) * A r t) = sm k (fun t => uk * (l t * A r t) + -vk * (c t * A r t)) := sm_congr fun t ht => by
          rw [ifn (show ¬ t = k by omega)]; grind
        show sm k (fun t => (if t = k then -vk * n else uk * l t - vk * c t) * A r t) + (if k = k then -vk * n else uk * l k - vk * c k) * A r k = _
        rw [e4, ifp rfl]
      rw [e3, sm_lin]
      grind
    rw [Gv_z (by omega) fun r hr => by
      rw [key r]
      by_cases w : r < k
      · rw [hv0 r w, hu0 r w]; omega
      · have : r = k := by omega
        subst this
        rw [hV, hU]
        grind, ifn (show ¬ q = k by omega)] at e1
    exact e1.symm
  have hkk := Bm_kk (A := A) k
  have hD1 := hD (k + 1) (Nat.le_refl _)
  have uk0 : uk ≠ 0 := fun z => by
    rw [z, hkk, Int.zero_mul] at h4
    rcases Int.mul_eq_zero.mp h4 with w | w
    · exact n0 w
    · exact hD1 w
  have fin : (n * m * uk) * (Dk A k * Gmn A (k + 1) q j) = (n * m * uk) * (Bm A k k k * Gmn A k q j - Gmn A k q k * Bm A k k j) := by
    rw [← hkk] at hw
    generalize Gmn A (k + 1) q j = G' at hw ⊢
    generalize Gmn A k q j = Gqj at g1 ⊢
    generalize Gmn A k q k = Gqk at g2 ⊢
    generalize Bm A k k j = Bkj at h2 ⊢
    generalize Bm A k k k = Bkk at h4 hw ⊢
    generalize Dk A k = D at h2 h4 g1 g2 ⊢
    generalize l q = lq at *
    generalize c q = cq at *
    clear hV hU hl hc hv0 hu0 hD hD1 hkk
    grind
  exact Int.eq_of_mul_eq_mul_left (fun z => by
    rcases Int.mul_eq_zero.mp z with w | w
    · rcases Int.mul_eq_zero.mp w with w | w
      · exact n0 w
      · exact m0 w
    · exact uk0 w) fin
/-- the solution: every equation holds -/
theorem cramer {n : Nat} (hD : ∀ s, s ≤ n → Dk A s ≠ 0) (j : Nat) {i : Nat} (hi : i < n) : sm n (fun t => A i t * Gmn A n t j) = A i j * Dk A n := by
  obtain ⟨m, l, m0, hl⟩ := elim_ex (A := A) n hD (fun r => A r j)
  have g : ∀ q, q < n → m * Gmn A n q j = -(l q * Dk A n) := fun q hq => by
    have := Gv_comb (A := A) hq m (fun r => A r j) l
    rw [Gv_z hq hl] at this
    have : m * Gmn A n q j + l q * Dk A n = 0 := this.symm
    omega
  have e : m * sm n (fun t => A i t * Gmn A n t j) = m * (A i j * Dk A n) := by
    rw [← sm_mul]
    have e1 : sm n (fun t => m * (A i t * Gmn A n t j)) = sm n (fun t => -(Dk A n) * (l t * A i t)) := sm_congr fun t ht => by
      have := g t ht
      grind
    rw [e1, sm_mul]
    have := hl i hi
    generalize sm n (fun t => l t * A i t) = S at this ⊢
    grind
  exact Int.eq_of_mul_eq_mul_left m0 e
end
