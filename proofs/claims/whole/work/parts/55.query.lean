/-! Questions that change nothing. -/
section Q
variable (n : Nat) (M : Mm)
theorem e_m_in (x a b : Int) : f_m_in n x a b M = some (if a ≤ x ∧ x ≤ b then 1 else 0, M) := by
  unfold f_m_in f_m_in_14
  by_cases h1 : x < a
  · rw [ifp h1, ifn (by omega)]
  · rw [ifn h1]
    by_cases h2 : b < x
    · rw [ifp h2, ifn (by omega)]
    · rw [ifn h2, ifp (by omega)]
theorem e_m_isDay (x : Int) : f_m_isDay n x M = some (if 0 ≤ x ∧ x ≤ 999 then 1 else 0, M) := by
  unfold f_m_isDay
  rw [e_m_in, bnd_mk]
theorem e_m_isTape (x : Int) : f_m_isTape n x M = some (if 0 ≤ x ∧ x < 6 then 1 else 0, M) := by
  unfold f_m_isTape
  rw [e_m_in, bnd_mk]
  have e : (0 ≤ x ∧ x ≤ 5) = (0 ≤ x ∧ x < 6) := propext ⟨fun h => ⟨h.1, by omega⟩, fun h => ⟨h.1, by omega⟩⟩
  simp only [e]
theorem e_m_isHolder (x : Int) (h : 0 ≤ M 0 1 ∧ M 0 1 ≤ 16) : f_m_isHolder n x M = some (if 0 ≤ x ∧ x < M 0 1 then 1 else 0, M) := by
  unfold f_m_isHolder
  rw [w32_s (by omega) (by omega), e_m_in, bnd_mk]
  have e : (0 ≤ x ∧ x ≤ M 0 1 - 1) = (0 ≤ x ∧ x < M 0 1) := propext ⟨fun h => ⟨h.1, by omega⟩, fun h => ⟨h.1, by omega⟩⟩
  simp only [e]
theorem e_m_isShare (x : Int) (h : 0 ≤ M 0 3 ∧ M 0 3 ≤ 40) : f_m_isShare n x M = some (if 0 ≤ x ∧ x < M 0 3 then 1 else 0, M) := by
  unfold f_m_isShare
  rw [w32_s (by omega) (by omega), e_m_in, bnd_mk]
  have e : (0 ≤ x ∧ x ≤ M 0 3 - 1) = (0 ≤ x ∧ x < M 0 3) := propext ⟨fun h => ⟨h.1, by omega⟩, fun h => ⟨h.1, by omega⟩⟩
  simp only [e]
theorem e_m_isFirm (x : Int) (h : 0 ≤ M 0 1 ∧ M 0 1 ≤ 16) : f_m_isFirm n x M = some (if 0 ≤ x ∧ x < M 0 1 ∧ M 1 x.toNat = 1 then 1 else 0, M) := by
  unfold f_m_isFirm f_m_isFirm_22
  rw [e_m_isHolder n M x h, bnd_mk]
  by_cases c : 0 ≤ x ∧ x < M 0 1
  · rw [ifp c, ifn (by decide), ckp (by omega)]
    by_cases c2 : M 1 x.toNat = 1
    · rw [ifn (by simpa using c2), ifp ⟨c.1, c.2, c2⟩]
    · rw [ifp c2, ifn (fun q => c2 q.2.2)]
  · rw [ifn c, ifp rfl, ifn (fun q => c ⟨q.1, q.2.1⟩)]
theorem e_m_isPerson (x : Int) (h : 0 ≤ x ∧ x < 16) : f_m_isPerson n x M = some (if M 1 x.toNat = 2 ∨ M 1 x.toNat = 3 then 1 else 0, M) := by
  unfold f_m_isPerson
  simp only [ckp h]
  by_cases c : M 1 x.toNat = 2
  · simp [c]
  · by_cases c2 : M 1 x.toNat = 3 <;> simp [c, c2]
theorem e_R_isHolder (x : Int) : f_R_isHolder n x M = some (if 0 ≤ x ∧ x < M 1 1 then 1 else 0, M) := by
  unfold f_R_isHolder f_R_isHolder_16
  by_cases h1 : x < 0
  · rw [ifp h1, ifn (by omega)]
  · rw [ifn h1]
    by_cases h2 : M 1 1 ≤ x
    · rw [ifp h2, ifn (by omega)]
    · rw [ifn h2, ifp (by omega)]
theorem e_R_isShare (x : Int) : f_R_isShare n x M = some (if 0 ≤ x ∧ x < M 1 4 then 1 else 0, M) := by
  unfold f_R_isShare f_R_isShare_16
  by_cases h1 : x < 0
  · rw [ifp h1, ifn (by omega)]
  · rw [ifn h1]
    by_cases h2 : M 1 4 ≤ x
    · rw [ifp h2, ifn (by omega)]
    · rw [ifn h2, ifp (by omega)]
theorem e_R_isFirm (x : Int) (h : M 1 1 ≤ 16) : f_R_isFirm n x M = some (if 0 ≤ x ∧ x < M 1 1 ∧ M 17 x.toNat = 1 then 1 else 0, M) := by
  unfold f_R_isFirm f_R_isFirm_22
  rw [e_R_isHolder n M x, bnd_mk]
  by_cases c : 0 ≤ x ∧ x < M 1 1
  · rw [ifp c, ifn (by decide), ckp (by omega)]
    by_cases c2 : M 17 x.toNat = 1
    · rw [ifn (by simpa using c2), ifp ⟨c.1, c.2, c2⟩]
    · rw [ifp c2, ifn (fun q => c2 q.2.2)]
  · rw [ifn c, ifp rfl, ifn (fun q => c ⟨q.1, q.2.1⟩)]
theorem e_R_isPerson (x : Int) (h : M 1 1 ≤ 16) : f_R_isPerson n x M = some (if 0 ≤ x ∧ x < M 1 1 ∧ (M 17 x.toNat = 2 ∨ M 17 x.toNat = 3) then 1 else 0, M) := by
  unfold f_R_isPerson f_R_isPerson_32
  rw [e_R_isHolder n M x, bnd_mk]
  by_cases c : 0 ≤ x ∧ x < M 1 1
  · rw [ifp c, ifn (by decide), ckp (by omega)]
    by_cases c2 : M 17 x.toNat = 2
    · simp [c2, c]
    · by_cases c3 : M 17 x.toNat = 3 <;> simp [c2, c3, c, ck, show x < 16 by omega]
  · rw [ifn c, ifp rfl, ifn (fun q => c ⟨q.1, q.2.1⟩)]
theorem e_R_isVoteless (x : Int) (h : M 1 1 ≤ 16) : f_R_isVoteless n x M = some (if 0 ≤ x ∧ x < M 1 1 ∧ (M 17 x.toNat = 4 ∨ M 17 x.toNat = 5) then 1 else 0, M) := by
  unfold f_R_isVoteless f_R_isVoteless_32
  rw [e_R_isHolder n M x, bnd_mk]
  by_cases c : 0 ≤ x ∧ x < M 1 1
  · rw [ifp c, ifn (by decide), ckp (by omega)]
    by_cases c2 : M 17 x.toNat = 4
    · simp [c2, c]
    · by_cases c3 : M 17 x.toNat = 5 <;> simp [c2, c3, c, ck, show x < 16 by omega]
  · rw [ifn c, ifp rfl, ifn (fun q => c ⟨q.1, q.2.1⟩)]
theorem e_R_isRuler (x : Int) (h : M 1 1 ≤ 16) : f_R_isRuler n x M = some (if 0 ≤ x ∧ x < M 1 1 ∧ (M 17 x.toNat = 2 ∨ M 17 x.toNat = 3) ∧ M 18 x.toNat = x then 1 else 0, M) := by
  unfold f_R_isRuler f_R_isRuler_22
  rw [e_R_isPerson n M x h, bnd_mk]
  by_cases c : 0 ≤ x ∧ x < M 1 1 ∧ (M 17 x.toNat = 2 ∨ M 17 x.toNat = 3)
  · rw [ifp c, ifn (by decide), ckp (by omega)]
    by_cases c2 : M 18 x.toNat = x
    · rw [ifn (by simpa using c2), ifp ⟨c.1, c.2.1, c.2.2, c2⟩]
    · rw [ifp c2, ifn (fun q => c2 q.2.2.2)]
  · rw [ifn c, ifp rfl, ifn (fun q => c ⟨q.1, q.2.1, q.2.2.1⟩)]
theorem e_W_isDay (x : Int) : f_W_isDay n x M = some (if 0 ≤ x ∧ x ≤ 999 then 1 else 0, M) := by
  unfold f_W_isDay f_W_isDay_15
  by_cases h1 : x < 0
  · rw [ifp h1, ifn (by omega)]
  · rw [ifn h1]
    by_cases h2 : 999 < x
    · rw [ifp h2, ifn (by omega)]
    · rw [ifn h2, ifp (by omega)]
theorem e_W_isTape (x : Int) : f_W_isTape n x M = some (if 0 ≤ x ∧ x < 6 then 1 else 0, M) := by
  unfold f_W_isTape f_W_isTape_14
  by_cases h1 : x < 0
  · rw [ifp h1, ifn (by omega)]
  · rw [ifn h1]
    by_cases h2 : 6 ≤ x
    · rw [ifp h2, ifn (by omega)]
    · rw [ifn h2, ifp (by omega)]
theorem e_W_isWord (x : Int) : f_W_isWord n x M = some (if 0 ≤ x ∧ x ≤ 4 then 1 else 0, M) := by
  unfold f_W_isWord f_W_isWord_13
  by_cases h1 : x < 0
  · rw [ifp h1, ifn (by omega)]
  · rw [ifn h1]
    by_cases h2 : 5 ≤ x
    · rw [ifp h2, ifn (by omega)]
    · rw [ifn h2, ifp (by omega)]
theorem e_W_hasPlaces (t i k : Int) (ht : 0 ≤ t ∧ t < 6) (hs : 0 ≤ M 14 t.toNat ∧ M 14 t.toNat ≤ 60) (hk : k ≤ 2147483647) : f_W_hasPlaces n t i k M = some (if 0 ≤ i ∧ 0 ≤ k ∧ i ≤ M 14 t.toNat - k then 1 else 0, M) := by
  unfold f_W_hasPlaces f_W_hasPlaces_24
  by_cases h1 : i < 0
  · rw [ifp h1, ifn (by omega)]
  · rw [ifn h1]
    by_cases h2 : k < 0
    · rw [ifp h2, ifn (by omega)]
    · rw [ifn h2, ckp ht, w32_s (by omega) (by omega)]
      by_cases h3 : M 14 t.toNat - k < i
      · rw [ifp h3, ifn (by omega)]
      · rw [ifn h3, ifp (by omega)]
/-- a set of holders: nothing above the lowest k bits -/
theorem isu_0 {x : Int} (hx : inR x) {k : Nat} (hk : k ≤ 16) : isu x k = 0 ↔ 0 ≤ x ∧ x < (2 : Int) ^ k := by
  have hsh : ∀ k : Nat, k ≤ 16 → (((Int32.ofInt (k : Int)).toUInt32 &&& Int32.toUInt32 31).toBitVec % 32) = BitVec.ofNat 32 k := by decide +kernel
  have h1 : isu x k = ((Int32.ofInt x).toBitVec >>> (BitVec.ofNat 32 k)).toInt := by
    unfold isu
    show ((Int32.ofInt x).toBitVec >>> (((Int32.ofInt (k : Int)).toUInt32 &&& Int32.toUInt32 31).toBitVec % 32)).toInt = _
    rw [hsh k hk]
  have h2 : ((Int32.ofInt x).toBitVec >>> (BitVec.ofNat 32 k)).toNat = (Int32.ofInt x).toBitVec.toNat >>> k := by
    rw [BitVec.ushiftRight_eq', BitVec.toNat_ushiftRight, BitVec.toNat_ofNat, Nat.mod_eq_of_lt (by omega)]
  have h3 : isu x k = 0 ↔ (Int32.ofInt x).toBitVec.toNat < 2 ^ k := by
    rw [h1]
    constructor
    · intro h
      have h4 : ((Int32.ofInt x).toBitVec >>> (BitVec.ofNat 32 k)) = 0#32 := BitVec.eq_of_toInt_eq (by rw [h]; rfl)
      have h5 := congrArg BitVec.toNat h4
      rw [h2, Nat.shiftRight_eq_div_pow] at h5
      rcases Nat.lt_or_ge (Int32.ofInt x).toBitVec.toNat (2 ^ k) with h6 | h6
      · exact h6
      · have h7 := Nat.div_pos h6 (Nat.two_pow_pos k)
        rw [h5] at h7; exact absurd h7 (by decide)
    · intro h
      have h4 : ((Int32.ofInt x).toBitVec >>> (BitVec.ofNat 32 k)) = 0#32 := by
        apply BitVec.eq_of_toNat_eq
        rw [h2, Nat.shiftRight_eq_div_pow, Nat.div_eq_of_lt h]; rfl
      rw [h4]; rfl
  rw [h3]
  have h5 : (((2 : Nat) ^ k : Nat) : Int) = (2 : Int) ^ k := by simp
  have h6 : (2 : Nat) ^ k ≤ 2 ^ 16 := Nat.pow_le_pow_right (by decide) hk
  have h7 : x = (Int32.ofInt x).toBitVec.toInt := (t_i32 hx).symm
  have h8 := BitVec.toInt_eq_toNat_cond (Int32.ofInt x).toBitVec
  have h9 := (Int32.ofInt x).toBitVec.isLt
  constructor
  · intro h
    rw [if_pos (by omega)] at h8
    omega
  · rintro ⟨a, b⟩
    by_cases c : 2 * (Int32.ofInt x).toBitVec.toNat < 2 ^ 32
    · rw [if_pos c] at h8; omega
    · rw [if_neg c] at h8; omega
theorem e_R_isSet (x : Int) (hx : inR x) (h : 0 ≤ M 1 1 ∧ M 1 1 ≤ 16) : f_R_isSet n x M = some (if 0 ≤ x ∧ x < (2 : Int) ^ (M 1 1).toNat then 1 else 0, M) := by
  unfold f_R_isSet
  have e := isu_0 hx (k := (M 1 1).toNat) (by omega)
  rw [show ((M 1 1).toNat : Int) = M 1 1 by omega] at e
  by_cases c : isu x (M 1 1) = 0
  · rw [ifn (by simpa using c), ifp (e.mp c)]
  · rw [ifp c, ifn (fun q => c (e.mpr q))]
theorem in_set (x : Int) (h : 0 ≤ M 0 1 ∧ M 0 1 ≤ 16) : f_m_in n x 0 (w32 (ish 1 (M 0 1) - 1)) M = some (if 0 ≤ x ∧ x < (2 : Int) ^ (M 0 1).toNat then 1 else 0, M) := by
  have e1 := p2_k (M 0 1).toNat (by omega)
  rw [show ((M 0 1).toNat : Int) = M 0 1 by omega] at e1
  have h6 : (2 : Nat) ^ (M 0 1).toNat ≤ 2 ^ 16 := Nat.pow_le_pow_right (by decide) (by omega)
  have h5 : (((2 : Nat) ^ (M 0 1).toNat : Nat) : Int) = (2 : Int) ^ (M 0 1).toNat := by simp
  have h7 : 0 < (2 : Nat) ^ (M 0 1).toNat := Nat.two_pow_pos _
  rw [e1, w32_s (by omega) (by omega), e_m_in]
  have e : (0 ≤ x ∧ x ≤ (2 : Int) ^ (M 0 1).toNat - 1) = (0 ≤ x ∧ x < (2 : Int) ^ (M 0 1).toNat) := propext ⟨fun h => ⟨h.1, by omega⟩, fun h => ⟨h.1, by omega⟩⟩
  simp only [e]
end Q
