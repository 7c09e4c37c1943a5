/-! The pure side: what stays of a memory, sums, counts, the least of a kind. -/
def cdR (k j : Nat) : Nat := if k = 0 then 1000 + j else k
def cdC (k j : Nat) : Nat := if k < 6 then 1000 + 100 * k + j else k
/-- all stayed but the places that L names -/
def Fr (c : Nat → Nat → Nat) (L : List Nat) (N N' : Mm) : Prop := ∀ k j, L.elem (c k j) = false → N' k j = N k j
section FR
variable {c : Nat → Nat → Nat} {L L' : List Nat} {N N1 N2 : Mm}
theorem Fr.rf : Fr c L N N := fun _ _ _ => rfl
theorem Fr.trans (h1 : Fr c L N N1) (h2 : Fr c L N1 N2) : Fr c L N N2 := fun k j h => (h2 k j h).trans (h1 k j h)
theorem Fr.mono (h : Fr c L N N1) (hs : (L.all fun x => L'.elem x) = true) : Fr c L' N N1 := by
  intro k j hk
  refine h k j ?_
  cases e : L.elem (c k j) with
  | false => rfl
  | true =>
    have h1 := List.all_eq_true.mp hs (c k j) (List.elem_iff.mp e)
    rw [hk] at h1; cases h1
theorem mg_s (M : Mm) (k j : Nat) (v : Int) : mset M k j v k j = v := by simp [mset, mrow]
theorem mg_j (M : Mm) (k : Nat) {j j' : Nat} (v : Int) (h : j' ≠ j) : mset M k j v k j' = M k j' := by simp [mset, mrow, h]
theorem mg_k (M : Mm) {k k' : Nat} (j : Nat) (v : Int) (h : k' ≠ k) : mset M k j v k' = M k' := by simp [mset, mrow, h]
theorem mg (M : Mm) (k j k' j' : Nat) (v : Int) : mset M k j v k' j' = if k' = k then (if j' = j then v else M k j') else M k' j' := by
  unfold mset mrow
  by_cases h : k' = k
  · rw [if_pos h, if_pos h]
  · rw [if_neg h, if_neg h]
theorem Fr.set (h : Fr c L N N1) {k j : Nat} {v : Int} (hc : L.elem (c k j) = true) : Fr c L N (mset N1 k j v) := by
  intro k' j' hk
  rw [mg]
  by_cases e : k' = k
  · subst e
    rw [if_pos rfl]
    by_cases e2 : j' = j
    · subst e2; rw [hc] at hk; cases hk
    · rw [if_neg e2]; exact h k' j' hk
  · rw [if_neg e]; exact h k' j' hk
theorem Fr.rowset (h : Fr c L N N1) {k : Nat} {f : Nat → Int} (hc : ∀ j, L.elem (c k j) = true) : Fr c L N (mrow N1 k f) := by
  intro k' j' hk
  by_cases e : k' = k
  · subst e; rw [hc] at hk; cases hk
  · rw [mr_ne e]; exact h k' j' hk
theorem Fr.row (h : Fr c L N N1) {k : Nat} (hk : ∀ j, L.elem (c k j) = false) : N1 k = N k := funext fun j => h k j (hk j)
theorem mfil_in (M : Mm) (k n : Nat) (v : Int) {j : Nat} (h : j < n) : mfil M k n v k j = v := by simp [mfil, mrow, h]
theorem mfil_k (M : Mm) {k k' : Nat} (n : Nat) (v : Int) (h : k' ≠ k) : mfil M k n v k' = M k' := by simp [mfil, mrow, h]
theorem mfil_o (M : Mm) (k n : Nat) (v : Int) {j : Nat} (h : ¬ j < n) : mfil M k n v k j = M k j := by simp [mfil, mrow, h]
end FR
/-- the sum of the first k -/
def sm : Nat → (Nat → Int) → Int
  | 0, _ => 0
  | k + 1, g => sm k g + g k
/-- how many of the first k -/
def cn : Nat → (Nat → Bool) → Nat
  | 0, _ => 0
  | k + 1, p => if p k then cn k p + 1 else cn k p
/-- the least of the first k, or k -/
def fsn : Nat → (Nat → Bool) → Nat
  | 0, _ => 0
  | k + 1, p => if fsn k p < k then fsn k p else if p k then k else k + 1
theorem sm_congr {g g' : Nat → Int} : ∀ {k : Nat}, (∀ i, i < k → g i = g' i) → sm k g = sm k g'
  | 0, _ => rfl
  | k + 1, h => by
    unfold sm
    rw [sm_congr (fun i hi => h i (by omega)), h k (by omega)]
theorem sm_nn {g : Nat → Int} : ∀ {k : Nat}, (∀ i, i < k → 0 ≤ g i) → 0 ≤ sm k g
  | 0, _ => Int.le_refl 0
  | k + 1, h => by
    unfold sm
    have h1 := sm_nn (k := k) (fun i hi => h i (by omega))
    have h2 := h k (by omega)
    omega
theorem sm_le {g g' : Nat → Int} : ∀ {k : Nat}, (∀ i, i < k → g i ≤ g' i) → sm k g ≤ sm k g'
  | 0, _ => Int.le_refl 0
  | k + 1, h => by
    unfold sm
    have h1 := sm_le (k := k) (fun i hi => h i (by omega))
    have h2 := h k (by omega)
    omega
theorem sm_const (B : Int) : ∀ k : Nat, sm k (fun _ => B) = k * B
  | 0 => by simp [sm]
  | k + 1 => by
    show sm k (fun _ => B) + B = _
    rw [sm_const B k]
    have : ((k + 1 : Nat) : Int) * B = k * B + B := by rw [Int.natCast_add, Int.add_mul]; simp
    omega
theorem sm_ub {g : Nat → Int} {k : Nat} {B : Int} (h : ∀ i, i < k → g i ≤ B) : sm k g ≤ k * B := by
  rw [← sm_const B k]; exact sm_le h
theorem sm_add (g g' : Nat → Int) : ∀ k : Nat, sm k (fun i => g i + g' i) = sm k g + sm k g'
  | 0 => rfl
  | k + 1 => by
    show sm k (fun i => g i + g' i) + (g k + g' k) = sm k g + g k + (sm k g' + g' k)
    rw [sm_add g g' k]; omega
theorem sm_zero {g : Nat → Int} : ∀ {k : Nat}, (∀ i, i < k → g i = 0) → sm k g = 0
  | 0, _ => rfl
  | k + 1, h => by
    unfold sm
    rw [sm_zero (fun i hi => h i (by omega)), h k (by omega)]; rfl
theorem sm_mono {g : Nat → Int} {k : Nat} (h : ∀ i, 0 ≤ g i) : ∀ {m : Nat}, k ≤ m → sm k g ≤ sm m g
  | 0, hm => by
    have : k = 0 := by omega
    subst this; exact Int.le_refl _
  | m + 1, hm => by
    by_cases e : k = m + 1
    · subst e; exact Int.le_refl _
    · have h1 := sm_mono h (k := k) (m := m) (by omega)
      have h2 := h m
      show sm k g ≤ sm m g + g m
      omega
/-- one of the things summed is below the sum -/
theorem sm_one {g : Nat → Int} {k i : Nat} (hi : i < k) (h : ∀ i, i < k → 0 ≤ g i) : g i ≤ sm k g := by
  induction k with
  | zero => omega
  | succ k ih =>
    show g i ≤ sm k g + g k
    by_cases e : i = k
    · subst e
      have := sm_nn (k := i) (fun j hj => h j (by omega))
      omega
    · have h1 := ih (by omega) (fun j hj => h j (by omega))
      have h2 := h k (by omega)
      omega
/-- a sum with one place changed -/
theorem sm_upd (g : Nat → Int) (i : Nat) (v : Int) : ∀ k : Nat, sm k (fun j => if j = i then v else g j) = sm k g + (if i < k then v - g i else 0)
  | 0 => by simp [sm]
  | k + 1 => by
    show sm k (fun j => if j = i then v else g j) + (if k = i then v else g k) = sm k g + g k + (if i < k + 1 then v - g i else 0)
    rw [sm_upd g i v k]
    by_cases e : k = i
    · subst e
      simp; omega
    · rw [if_neg e]
      by_cases h : i < k
      · rw [if_pos h, if_pos (show i < k + 1 by omega)]; omega
      · rw [if_neg h, if_neg (show ¬ i < k + 1 by omega)]; omega
theorem cn_le (p : Nat → Bool) : ∀ k : Nat, cn k p ≤ k
  | 0 => Nat.le_refl 0
  | k + 1 => by
    unfold cn
    have := cn_le p k
    split <;> omega
theorem cn_mono (p : Nat → Bool) {k m : Nat} (h : k ≤ m) : cn k p ≤ cn m p := by
  induction m with
  | zero =>
    have : k = 0 := by omega
    subst this; exact Nat.le_refl _
  | succ m ih =>
    by_cases e : k = m + 1
    · subst e; exact Nat.le_refl _
    · have h1 := ih (by omega)
      have h2 : cn m p ≤ cn (m + 1) p := by
        show _ ≤ (if p m then cn m p + 1 else cn m p)
        split <;> omega
      omega
theorem cn_congr {p q : Nat → Bool} : ∀ {k : Nat}, (∀ i, i < k → p i = q i) → cn k p = cn k q
  | 0, _ => rfl
  | k + 1, h => by
    unfold cn
    rw [cn_congr (fun i hi => h i (by omega)), h k (by omega)]
theorem cn_t {p : Nat → Bool} {k : Nat} (h : p k = true) : cn (k + 1) p = cn k p + 1 := by
  show (if p k then cn k p + 1 else cn k p) = _
  rw [if_pos h]
theorem cn_f {p : Nat → Bool} {k : Nat} (h : p k = false) : cn (k + 1) p = cn k p := by
  show (if p k then cn k p + 1 else cn k p) = _
  rw [h]; rfl
/-- one that is counted lies below the count's end -/
theorem cn_lt {p : Nat → Bool} {i k : Nat} (hi : i < k) (h : p i = true) : cn i p < cn k p := by
  have h1 := cn_mono p (show i + 1 ≤ k by omega)
  rw [cn_t h] at h1
  omega
theorem cn_inj {p : Nat → Bool} {i k : Nat} (hi : p i = true) (hk : p k = true) (h : cn i p = cn k p) : i = k := by
  by_cases e : i < k
  · have := cn_lt e hi; omega
  · by_cases e2 : k < i
    · have := cn_lt e2 hk; omega
    · omega
/-- the a-th one -/
theorem cn_nth {p : Nat → Bool} {a : Nat} : ∀ {k : Nat}, a < cn k p → ∃ h, h < k ∧ p h = true ∧ cn h p = a
  | 0, h => by
    have h2 : a < 0 := h
    omega
  | k + 1, h => by
    cases e : p k with
    | false =>
      rw [cn_f e] at h
      obtain ⟨i, h1, h2, h3⟩ := cn_nth h
      exact ⟨i, by omega, h2, h3⟩
    | true =>
      rw [cn_t e] at h
      by_cases e2 : a < cn k p
      · obtain ⟨i, h1, h2, h3⟩ := cn_nth e2
        exact ⟨i, by omega, h2, h3⟩
      · exact ⟨k, by omega, e, by omega⟩
theorem fsn_le (p : Nat → Bool) : ∀ k : Nat, fsn k p ≤ k
  | 0 => Nat.le_refl 0
  | k + 1 => by
    unfold fsn
    have := fsn_le p k
    split
    · omega
    · split <;> omega
theorem fsn_p {p : Nat → Bool} : ∀ {k : Nat}, fsn k p < k → p (fsn k p) = true
  | 0, h => by
    have h2 : fsn 0 p < 0 := h
    omega
  | k + 1, h => by
    unfold fsn at h ⊢
    split
    · rename_i h1; exact fsn_p h1
    · rename_i h1
      split
      · rename_i h2; exact h2
      · rename_i h2
        rw [if_neg h1, if_neg h2] at h; omega
theorem fsn_least {p : Nat → Bool} : ∀ {k i : Nat}, i < fsn k p → i < k → p i = false
  | 0, i, _, h => by omega
  | k + 1, i, h, hk => by
    unfold fsn at h
    by_cases h1 : fsn k p < k
    · rw [if_pos h1] at h
      exact fsn_least h (by omega)
    · rw [if_neg h1] at h
      have h3 := fsn_le p k
      by_cases h2 : p k = true
      · rw [if_pos h2] at h
        exact fsn_least (k := k) (by omega) h
      · rw [if_neg h2] at h
        by_cases e : i = k
        · subst e; simpa using h2
        · exact fsn_least (k := k) (by omega) (by omega)
theorem fsn_eq {p : Nat → Bool} {k i : Nat} (hi : i < k) (hp : p i = true) (hl : ∀ j, j < i → p j = false) : fsn k p = i := by
  have h1 : fsn k p ≤ i := by
    apply Nat.le_of_not_lt
    intro h
    have := fsn_least h hi
    rw [hp] at this; cases this
  by_cases e : fsn k p = i
  · exact e
  · have h2 := fsn_p (p := p) (k := k) (by omega)
    rw [hl _ (by omega)] at h2; cases h2
theorem fsn_none {p : Nat → Bool} {k : Nat} (h : ∀ j, j < k → p j = false) : fsn k p = k := by
  have h1 := fsn_le p k
  by_cases e : fsn k p < k
  · have h2 := fsn_p e
    rw [h _ e] at h2; cases h2
  · omega
theorem w32_s {x : Int} (h1 : -2147483648 ≤ x) (h2 : x ≤ 2147483647) : w32 x = x := w32_id h1 h2
theorem ifp {α : Type} {c : Prop} [Decidable c] {a b : α} (h : c) : (if c then a else b) = a := if_pos h
theorem ifn {α : Type} {c : Prop} [Decidable c] {a b : α} (h : ¬ c) : (if c then a else b) = b := if_neg h
theorem ckp {c : Prop} [Decidable c] {r : Rr} (h : c) : ck c r = r := if_pos h
