/-! Rows that lose: the bordered minors' signs and sizes. -/
section
variable {A : Nat → Nat → Int} {n : Nat}
/-- twelve less what goes on; the last column is what comes to the holder -/
def MMx (A : Nat → Nat → Int) (n : Nat) : Prop :=
  (∀ i j, i < n → j < n → i ≠ j → A i j ≤ 0) ∧ (∀ i, i < n → 0 ≤ A i n) ∧ (∀ i, i < n → 0 ≤ sm n (A i)) ∧
  (∀ S : Nat → Prop, (∃ i, i < n ∧ S i) → ∃ i, i < n ∧ S i ∧ (0 < sm n (A i) ∨ ∃ j, j < n ∧ ¬ S j ∧ A i j < 0))
def rsB (A : Nat → Nat → Int) (n k i : Nat) : Int := sm n (fun j => Bm A k i j)
def MKx (A : Nat → Nat → Int) (n k : Nat) : Prop :=
  (∀ i j, k ≤ i → i < n → k ≤ j → j < n → i ≠ j → Bm A k i j ≤ 0) ∧ (∀ i, k ≤ i → i < n → 0 ≤ Bm A k i n) ∧ (∀ i, k ≤ i → i < n → 0 ≤ rsB A n k i) ∧
  (∀ S : Nat → Prop, (∃ i, k ≤ i ∧ i < n ∧ S i) → ∃ i, (k ≤ i ∧ i < n) ∧ S i ∧ (0 < rsB A n k i ∨ ∃ j, (k ≤ j ∧ j < n) ∧ ¬ S j ∧ Bm A k i j < 0)) ∧
  ∀ s, s ≤ k → 0 < Dk A s
theorem Bm_0 (i j : Nat) : Bm A 0 i j = A i j := by
  show (0 : Int) + sgN 0 * (if 0 = 0 then A (rwi 0 i 0) j else A (rwi 0 i 0) 0) * 1 = A i j
  rw [ifp rfl, show sgN 0 = 1 from rfl, show rwi 0 i 0 = i from rfl]
  omega
theorem sm_one_le {g : Nat → Int} {k j0 : Nat} (hk : k < n) (hj : j0 < n) (hne : j0 ≠ k) (h : ∀ j, j < n → j ≠ k → g j ≤ 0) : sm n g ≤ g k + g j0 := by
  have h1 : sm n g ≤ sm n (fun j => (if j = k then g k else 0) + (if j = j0 then g j0 else 0)) := sm_le fun j hj2 => by
    by_cases q1 : j = k
    · rw [ifp q1, ifn (by omega), q1]; omega
    · rw [ifn q1]
      by_cases q2 : j = j0
      · rw [ifp q2, q2]; omega
      · rw [ifn q2]
        have := h j hj2 q1
        omega
  rw [sm_add, sm_pt _ _ hk, sm_pt _ _ hj] at h1
  exact h1
theorem sm_one_le0 {g : Nat → Int} {k : Nat} (hk : k < n) (h : ∀ j, j < n → j ≠ k → g j ≤ 0) : sm n g ≤ g k := by
  have h1 : sm n g ≤ sm n (fun j => if j = k then g k else 0) := sm_le fun j hj2 => by
    by_cases q1 : j = k
    · rw [ifp q1, q1]; omega
    · rw [ifn q1]; exact h j hj2 q1
  rw [sm_pt _ _ hk] at h1
  exact h1
theorem MK_piv {k : Nat} (h : MKx A n k) (hk : k < n) : 0 < Bm A k k k := by
  have hneg : ∀ j, j < n → j ≠ k → Bm A k k j ≤ 0 := fun j hj hne => by
    by_cases q : j < k
    · rw [Bm_lt q]; omega
    · exact h.1 k j (Nat.le_refl k) hk (by omega) hj (fun z => hne z.symm)
  obtain ⟨i, i1, i2, i3⟩ := h.2.2.2.1 (fun x => x = k) ⟨k, Nat.le_refl k, hk, rfl⟩
  have i2' : i = k := i2
  subst i2'
  have hs := h.2.2.1 i (Nat.le_refl i) hk
  rcases i3 with q | ⟨j, j1, j2, j3⟩
  · have := sm_one_le0 (g := fun j => Bm A i i j) hk hneg
    unfold rsB at q
    omega
  · have := sm_one_le (g := fun j => Bm A i i j) hk j1.2 j2 hneg
    unfold rsB at hs
    have this' : sm n (fun j => Bm A i i j) ≤ Bm A i i i + Bm A i i j := this
    omega
theorem MK_0 (h : MMx A n) : MKx A n 0 := by
  have e : ∀ i, rsB A n 0 i = sm n (A i) := fun i => sm_congr fun j _ => Bm_0 i j
  refine ⟨fun i j _ hi _ hj hne => by rw [Bm_0]; exact h.1 i j hi hj hne, fun i _ hi => by rw [Bm_0]; exact h.2.1 i hi, fun i _ hi => by rw [e]; exact h.2.2.1 i hi, fun S ⟨i, _, i1, i2⟩ => ?_, fun s hs => ?_⟩
  · obtain ⟨x, x1, x2, x3⟩ := h.2.2.2 S ⟨i, i1, i2⟩
    refine ⟨x, ⟨Nat.zero_le _, x1⟩, x2, ?_⟩
    rcases x3 with q | ⟨j, j1, j2, j3⟩
    · exact Or.inl (by rw [e]; exact q)
    · exact Or.inr ⟨j, ⟨Nat.zero_le _, j1⟩, j2, by rw [Bm_0]; exact j3⟩
  · have : s = 0 := by omega
    subst this
    show (0 : Int) < 1
    decide
theorem pos_of_mul {a b : Int} (ha : 0 < a) (h : 0 < a * b) : 0 < b := by
  by_cases q : 0 < b
  · exact q
  · have q : b ≤ 0 := by omega
    have : a * b ≤ a * 0 := Int.mul_le_mul_of_nonneg_left q (by omega)
    rw [Int.mul_zero] at this
    omega
theorem nn_of_mul {a b : Int} (ha : 0 < a) (h : 0 ≤ a * b) : 0 ≤ b := by
  by_cases q : b < 0
  · have : a * b < a * 0 := Int.mul_lt_mul_of_pos_left q ha
    rw [Int.mul_zero] at this
    omega
  · omega
theorem mulnn {a b : Int} (ha : 0 ≤ a) (hb : 0 ≤ b) : 0 ≤ a * b := Int.mul_nonneg ha hb
theorem MK_s {k : Nat} (h : MKx A n k) (hk : k < n) : MKx A n (k + 1) := by
  have hp := MK_piv h hk
  have hD1 : 0 < Dk A (k + 1) := by rw [← Bm_kk]; exact hp
  have hDp : ∀ s, s ≤ k + 1 → 0 < Dk A s := fun s hs => by
    by_cases q : s = k + 1
    · rw [q]; exact hD1
    · exact h.2.2.2.2 s (by omega)
  have hD : ∀ s, s ≤ k + 1 → Dk A s ≠ 0 := fun s hs => by have := hDp s hs; omega
  have hk0 := hDp k (by omega)
  have st := fun i j => B_step (A := A) hD i j
  have hik : ∀ i, k + 1 ≤ i → i < n → Bm A k i k ≤ 0 := fun i h1 h2 => h.1 i k (by omega) h2 (Nat.le_refl k) hk (by omega)
  have hkj : ∀ j, k + 1 ≤ j → j < n → Bm A k k j ≤ 0 := fun j h1 h2 => h.1 k j (Nat.le_refl k) hk (by omega) h2 (by omega)
  have hrs : ∀ i, Dk A k * rsB A n (k + 1) i = Bm A k k k * rsB A n k i - Bm A k i k * rsB A n k k := fun i => by
    unfold rsB
    rw [← sm_mul]
    have e : sm n (fun j => Dk A k * Bm A (k + 1) i j) = sm n (fun j => Bm A k k k * Bm A k i j + -(Bm A k i k) * Bm A k k j) := sm_congr fun j _ => by
      rw [st i j]; grind
    rw [e, sm_lin]
    grind
  refine ⟨fun i j h1 h2 h3 h4 hne => ?_, fun i h1 h2 => ?_, fun i h1 h2 => ?_, fun S hS => ?_, hDp⟩
  · have e := st i j
    have a1 := mulnn (a := Bm A k k k) (b := -(Bm A k i j)) (by omega) (by have := h.1 i j (by omega) h2 (by omega) h4 hne; omega)
    have a2 := mulnn (a := -(Bm A k i k)) (b := -(Bm A k k j)) (by have := hik i h1 h2; omega) (by have := hkj j h3 h4; omega)
    have a3 := nn_of_mul (b := -(Bm A (k + 1) i j)) hk0 (by grind)
    omega
  · have e := st i n
    have a1 := mulnn (a := Bm A k k k) (b := Bm A k i n) (by omega) (h.2.1 i (by omega) h2)
    have a2 := mulnn (a := -(Bm A k i k)) (b := Bm A k k n) (by have := hik i h1 h2; omega) (h.2.1 k (Nat.le_refl k) hk)
    exact nn_of_mul hk0 (by grind)
  · have e := hrs i
    have a1 := mulnn (a := Bm A k k k) (b := rsB A n k i) (by omega) (h.2.2.1 i (by omega) h2)
    have a2 := mulnn (a := -(Bm A k i k)) (b := rsB A n k k) (by have := hik i h1 h2; omega) (h.2.2.1 k (Nat.le_refl k) hk)
    exact nn_of_mul hk0 (by grind)
  · obtain ⟨i0, i1, i2, i3⟩ := hS
    apply Classical.byContradiction
    intro no
    have c1 : ∀ i, k + 1 ≤ i → i < n → S i → rsB A n (k + 1) i ≤ 0 := fun i h1 h2 h3 => Classical.byContradiction fun q => no ⟨i, ⟨h1, h2⟩, h3, Or.inl (by omega)⟩
    have c2 : ∀ i j, k + 1 ≤ i → i < n → S i → k + 1 ≤ j → j < n → ¬ S j → 0 ≤ Bm A (k + 1) i j := fun i j h1 h2 h3 h4 h5 h6 => Classical.byContradiction fun q => no ⟨i, ⟨h1, h2⟩, h3, Or.inr ⟨j, ⟨h4, h5⟩, h6, by omega⟩⟩
    -- what that says one step before
    have d1 : ∀ i, k + 1 ≤ i → i < n → S i → rsB A n k i ≤ 0 ∧ (Bm A k i k < 0 → rsB A n k k ≤ 0) := fun i h1 h2 h3 => by
      have e := hrs i
      have a0 := mulnn (a := Dk A k) (b := -(rsB A n (k + 1) i)) (by omega) (by have := c1 i h1 h2 h3; omega)
      have r1 := h.2.2.1 i (by omega) h2
      have r2 := h.2.2.1 k (Nat.le_refl k) hk
      have r3 := hik i h1 h2
      have a1 := mulnn (a := Bm A k k k) (b := rsB A n k i) (by omega) r1
      have a2 := mulnn (a := -(Bm A k i k)) (b := rsB A n k k) (by omega) r2
      refine ⟨Classical.byContradiction fun q => ?_, fun w => Classical.byContradiction fun q => ?_⟩
      · have : 0 < Bm A k k k * rsB A n k i := Int.mul_pos hp (by omega)
        grind
      · have : 0 < -(Bm A k i k) * rsB A n k k := Int.mul_pos (by omega) (by omega)
        grind
    have d2 : ∀ i j, k + 1 ≤ i → i < n → S i → k + 1 ≤ j → j < n → ¬ S j → 0 ≤ Bm A k i j ∧ (Bm A k i k < 0 → 0 ≤ Bm A k k j) := fun i j h1 h2 h3 h4 h5 h6 => by
      have hne : i ≠ j := fun z => h6 (by rw [← z]; exact h3)
      have e := st i j
      have a0 := mulnn (a := Dk A k) (b := Bm A (k + 1) i j) (by omega) (c2 i j h1 h2 h3 h4 h5 h6)
      have r1 := h.1 i j (by omega) h2 (by omega) h5 hne
      have r2 := hkj j h4 h5
      have r3 := hik i h1 h2
      have a1 := mulnn (a := Bm A k k k) (b := -(Bm A k i j)) (by omega) (by omega)
      have a2 := mulnn (a := -(Bm A k i k)) (b := -(Bm A k k j)) (by omega) (by omega)
      refine ⟨Classical.byContradiction fun q => ?_, fun w => Classical.byContradiction fun q => ?_⟩
      · have : 0 < Bm A k k k * -(Bm A k i j) := Int.mul_pos hp (by omega)
        grind
      · have : 0 < -(Bm A k i k) * -(Bm A k k j) := Int.mul_pos (by omega) (by omega)
        grind
    by_cases w : ∃ i, (k + 1 ≤ i ∧ i < n) ∧ S i ∧ Bm A k i k < 0
    · obtain ⟨i, w1, w2, w3⟩ := w
      obtain ⟨x, x1, x2, x3⟩ := h.2.2.2.1 (fun y => y = k ∨ (k + 1 ≤ y ∧ S y)) ⟨k, Nat.le_refl k, hk, Or.inl rfl⟩
      rcases x2 with x2 | x2
      · subst x2
        rcases x3 with y | ⟨j, j1, j2, j3⟩
        · have := (d1 i w1.1 w1.2 w2).2 w3
          omega
        · have hj : x + 1 ≤ j := Classical.byContradiction fun z => j2 (Or.inl (by omega))
          have := (d2 i j w1.1 w1.2 w2 hj j1.2 (fun z => j2 (Or.inr ⟨hj, z⟩))).2 w3
          omega
      · rcases x3 with y | ⟨j, j1, j2, j3⟩
        · have := (d1 x x2.1 x1.2 x2.2).1
          omega
        · have hj : k + 1 ≤ j := Classical.byContradiction fun z => j2 (Or.inl (by omega))
          have := (d2 x j x2.1 x1.2 x2.2 hj j1.2 (fun z => j2 (Or.inr ⟨hj, z⟩))).1
          omega
    · obtain ⟨x, x1, x2, x3⟩ := h.2.2.2.1 (fun y => k + 1 ≤ y ∧ S y) ⟨i0, by omega, i2, i1, i3⟩
      rcases x3 with y | ⟨j, j1, j2, j3⟩
      · have := (d1 x x2.1 x1.2 x2.2).1
        omega
      · by_cases z : j = k
        · subst z
          exact w ⟨x, ⟨x2.1, x1.2⟩, x2.2, j3⟩
        · have := (d2 x j x2.1 x1.2 x2.2 (by omega) j1.2 (fun z => j2 ⟨by omega, z⟩)).1
          omega
theorem MK_all (h : MMx A n) : ∀ k, k ≤ n → MKx A n k
  | 0, _ => MK_0 h
  | k + 1, hk => MK_s (MK_all h k (by omega)) (by omega)
/-- no larger than rows allow -/
def NRM (A : Nat → Nat → Int) (n : Nat) : Prop := ∀ i, i < n → sm (n + 1) (fun c => abI (A i c)) ≤ 24
theorem sm_two {g : Nat → Int} (hg : ∀ i, 0 ≤ g i) {k j : Nat} (h1 : k ≤ j) (h2 : j ≤ n) : sm k g + g j ≤ sm (n + 1) g := by
  have a1 := sm_mono hg h1
  have a2 := sm_mono hg (show j + 1 ≤ n + 1 by omega)
  have e : sm (j + 1) g = sm j g + g j := rfl
  omega
theorem Bm_le (hN : NRM A n) {k i j : Nat} (hk : k < n) (hi : i < n) (hj : j ≤ n) : -(24 ^ (k + 1)) ≤ Bm A k i j ∧ Bm A k i j ≤ 24 ^ (k + 1) := by
  by_cases q : j < k
  · rw [Bm_lt q]
    have : (0 : Int) ≤ 24 ^ (k + 1) := Int.pow_nonneg (by decide)
    omega
  · refine dtm_le (K := 24) (by decide) fun r hr => ?_
    have hrw : rwi k i r < n := by unfold rwi; split <;> omega
    have e : sm (k + 1) (fun c => abI (cst (fun r c => A (rwi k i r) c) k (fun r => A (rwi k i r) j) r c)) = sm k (fun c => abI (A (rwi k i r) c)) + abI (A (rwi k i r) j) := by
      have e1 : sm k (fun c => abI (cst (fun r c => A (rwi k i r) c) k (fun r => A (rwi k i r) j) r c)) = sm k (fun c => abI (A (rwi k i r) c)) := sm_congr fun c hc => by
        show abI (if c = k then A (rwi k i r) j else A (rwi k i r) c) = _
        rw [ifn (by omega)]
      show sm k _ + abI (if k = k then A (rwi k i r) j else A (rwi k i r) k) = _
      rw [e1, ifp rfl]
    have := sm_two (n := n) (g := fun c => abI (A (rwi k i r) c)) (fun _ => abI_nn _) (show k ≤ j by omega) hj
    have q2 := hN _ hrw
    show sm (k + 1) (fun c => abI (cst (fun r c => A (rwi k i r) c) k (fun r => A (rwi k i r) j) r c)) ≤ 24
    omega
theorem Dk_le (hN : NRM A n) {k : Nat} (hk : k ≤ n) : -(24 ^ k) ≤ Dk A k ∧ Dk A k ≤ 24 ^ k :=
  dtm_le (K := 24) (by decide) fun r hr => by
    have := sm_mono (g := fun c => abI (A r c)) (fun _ => abI_nn _) (show k ≤ n + 1 by omega)
    have q2 := hN r (by omega)
    omega
theorem Gmn_le (hN : NRM A n) {k q j : Nat} (hk : k ≤ n) (hq : q < k) (hj : j ≤ n) : -(24 ^ k) ≤ Gmn A k q j ∧ Gmn A k q j ≤ 24 ^ k := by
  have hp : (0 : Int) ≤ 24 ^ k := Int.pow_nonneg (by decide)
  by_cases c : j < k
  · by_cases c2 : j = q
    · rw [c2, Gm_s]; exact Dk_le hN hk
    · rw [Gm_lt hq c c2]; omega
  · refine dtm_le (K := 24) (by decide) fun r hr => ?_
    have e : sm k (fun c => abI (cst A q (fun r => A r j) r c)) ≤ sm k (fun c => abI (A r c) + (if c = q then abI (A r j) else 0)) := sm_le fun c hc => by
      show abI (if c = q then A r j else A r c) ≤ _
      have := abI_nn (A r c)
      by_cases z : c = q
      · rw [ifp z, ifp z]; omega
      · rw [ifn z, ifn z]; omega
    rw [sm_add, sm_pt _ _ hq] at e
    have := sm_two (n := n) (g := fun c => abI (A r c)) (fun _ => abI_nn _) (show k ≤ j by omega) hj
    have q2 := hN r (by omega)
    omega
end
