/-! Acts: both sides in step. -/
def sA (σ : Mm) (v : Int) (bo : Nat → Int) : Mm := mset (mrow σ 46 bo) 0 71 v
/-- both are at the state σ, but that c bodies at most ran -/
def JA (σ : Mm) (c : Int) (M N : Mm) : Prop := Inv σ ∧ ∃ v bo, (0 ≤ v ∧ v ≤ c) ∧ AgR N (sA σ v bo) ∧ RelC M (sA σ v bo)
def SA (σ : Mm) (c : Int) (a b : Rr) : Prop := ∃ r M' N', a = some (r, M') ∧ b = some (r, N') ∧ JA σ c M' N'
theorem JA.J {σ : Mm} {c : Int} {M N : Mm} (h : JA σ c M N) : J M N := by
  obtain ⟨hI, v, bo, hv, hA, hC⟩ := h
  exact ⟨sA σ v bo, hI, hA, hC⟩
theorem SA.sim {σ : Mm} {c : Int} {a b : Rr} (h : SA σ c a b) : Sim a b := by
  obtain ⟨r, M', N', e1, e2, e3⟩ := h
  exact ⟨r, M', N', e1, e2, e3.J⟩
theorem SA.bnd {σ : Mm} {c c' : Int} {a b : Rr} {k k' : Int → Mm → Rr} (h : SA σ c a b) (hk : ∀ r M N, JA σ c M N → SA σ c' (k r M) (k' r N)) : SA σ c' (bnd a k) (bnd b k') := by
  obtain ⟨r, M', N', e1, e2, e3⟩ := h
  subst e1; subst e2
  exact hk r M' N' e3
theorem SA.ret {σ : Mm} {c : Int} {M N : Mm} (h : JA σ c M N) (r : Int) : SA σ c (some (r, M)) (some (r, N)) := ⟨r, M, N, rfl, rfl, h⟩
theorem JA.mono {σ : Mm} {c c' : Int} {M N : Mm} (h : JA σ c M N) (hc : c ≤ c') : JA σ c' M N := by
  obtain ⟨hI, v, bo, hv, hA, hC⟩ := h
  exact ⟨hI, v, bo, ⟨hv.1, by omega⟩, hA, hC⟩
theorem bnd_id (a : Rr) : bnd a (fun r M => some (r, M)) = a := by
  cases a with
  | none => rfl
  | some q => rfl
def g_begin (b : Int) (M : Mm) : Rr := if (M 10 20) < 0 then some (0, mset M 10 20 (w32 (M 10 20 + 1))) else (if 20 ≤ (M 10 20) then some (0, mset M 10 20 (w32 (M 10 20 + 1))) else (ck (0 ≤ (M 10 20) ∧ (M 10 20) < 21) (some (0, mset (mset M 10 (M 10 20).toNat b) 10 20 (w32 (M 10 20 + 1))))))
theorem ja_begin {σ : Mm} {c : Int} {M N : Mm} (n : Nat) (b : Int) (h : JA σ c M N) (hc : c ≤ 900) : SA σ (c + 1) (g_begin b M) (f_m_body n b N) := by
  obtain ⟨hI, v, bo, hv, hA, hC⟩ := h
  have a71 : N 0 71 = v := (hA 0 71 rfl).trans (by unfold sA; rw [mg_s])
  have a46 : N 46 = bo := by
    rw [hA.row (k := 46) (fun _ => rfl)]
    unfold sA
    rw [mg_k _ _ _ (by decide), mr_eq]
  obtain ⟨k1, k2, k3, k4, k5, k6⟩ := hC
  obtain ⟨t1, t2, t3⟩ := k6
  have t2' : M 10 20 = v := t2
  have t3' : ∀ j : Nat, j < 20 → (j : Int) < v → M 10 j = bo j := fun j h1 h2 => t3 j h1 (by show (j : Int) < v; exact h2)
  unfold g_begin f_m_body f_m_body_19
  rw [t2', a71, ifn (show ¬ v < 0 by omega)]
  by_cases c2 : 20 ≤ v
  · rw [ifp c2, ifp c2, w32_s (by omega) (by omega)]
    refine ⟨0, _, _, rfl, rfl, hI, v + 1, bo, ⟨by omega, by omega⟩, ?_, ?_⟩
    · have h1 := hA.set 0 71 (v + 1)
      have e : mset (sA σ v bo) 0 71 (v + 1) = sA σ (v + 1) bo := by
        unfold sA
        funext k j
        simp only [mset, mrow]
        by_cases e0 : k = 0
        · subst e0
          by_cases e1 : j = 71 <;> simp [e1]
        · simp [e0]
      rw [← e]; exact h1
    · refine ⟨k1, k2, k3, k4, k5, ⟨?_, ?_⟩, ?_, ?_⟩
      · show 0 ≤ v + 1; omega
      · show v + 1 ≤ 1000; omega
      · show mset M 10 20 (v + 1) 10 20 = v + 1
        rw [mg_s]
      · intro j h1 h2
        show mset M 10 20 (v + 1) 10 j = bo j
        rw [mg_j _ _ _ (by omega)]
        exact t3' j h1 (by omega)
  · rw [ifn c2, ifn c2, ckp (by omega), ckp (by omega), mg_k _ _ _ (show (0 : Nat) ≠ 46 by decide), a71, w32_s (by omega) (by omega)]
    refine ⟨0, _, _, rfl, rfl, hI, v + 1, (fun j => if j = v.toNat then b else bo j), ⟨by omega, by omega⟩, ?_, ?_⟩
    · have h1 := (hA.set 46 v.toNat b).set 0 71 (v + 1)
      have e : mset (mset (sA σ v bo) 46 v.toNat b) 0 71 (v + 1) = sA σ (v + 1) (fun j => if j = v.toNat then b else bo j) := by
        unfold sA
        funext k j
        simp only [mset, mrow]
        by_cases e0 : k = 0
        · subst e0
          by_cases e1 : j = 71 <;> simp [e1]
        · by_cases e1 : k = 46
          · subst e1; simp
          · simp [e0, e1]
      rw [← e]; exact h1
    · refine ⟨k1, k2, k3, k4, k5, ⟨?_, ?_⟩, ?_, ?_⟩
      · show 0 ≤ v + 1; omega
      · show v + 1 ≤ 1000; omega
      · show mset (mset M 10 v.toNat b) 10 20 (v + 1) 10 20 = v + 1
        rw [mg_s]
      · intro j h1 h2
        replace h2 : (j : Int) < v + 1 := h2
        show mset (mset M 10 v.toNat b) 10 20 (v + 1) 10 j = (if j = v.toNat then b else bo j)
        rw [mg_j _ _ _ (by omega)]
        by_cases e : j = v.toNat
        · rw [ifp e, e, mg_s]
        · rw [ifn e, mg_j _ _ _ e]
          exact t3' j h1 (by omega)
theorem JA.kd {σ : Mm} {c : Int} {M N : Mm} (h : JA σ c M N) : N 1 = σ 1 := by
  obtain ⟨hI, v, bo, hv, hA, hC⟩ := h
  exact hA.row fun _ => rfl
theorem JA.fa {σ : Mm} {c : Int} {M N : Mm} (h : JA σ c M N) : N 2 = σ 2 := by
  obtain ⟨hI, v, bo, hv, hA, hC⟩ := h
  exact hA.row fun _ => rfl
theorem JA.hl {σ : Mm} {c : Int} {M N : Mm} (h : JA σ c M N) {i : Nat} (hi : (i : Int) < σ 0 1) : M 900 i = σ 1 i ∧ M 901 i = σ 2 i := by
  obtain ⟨hI, v, bo, hv, hA, hC⟩ := h
  exact hC.1.2.2.2.2.2.2.2.2.2 i hi

theorem ja_beg0 {σ : Mm} {c : Int} {M N : Mm} (n : Nat) (x0 b : Int) (h : JA σ c M N) (hc : c ≤ 900) : SA σ (c + 1) (f_H_beginc0 n x0 b M) (f_m_body n b N) := ja_begin n b h hc
theorem ja_beg1 {σ : Mm} {c : Int} {M N : Mm} (n : Nat) (x0 b : Int) (h : JA σ c M N) (hc : c ≤ 900) : SA σ (c + 1) (f_H_beginc1 n x0 b M) (f_m_body n b N) := ja_begin n b h hc
theorem ja_beg2 {σ : Mm} {c : Int} {M N : Mm} (n : Nat) (x0 b : Int) (h : JA σ c M N) (hc : c ≤ 900) : SA σ (c + 1) (f_H_beginc2 n x0 b M) (f_m_body n b N) := ja_begin n b h hc
theorem ja_beg3 {σ : Mm} {c : Int} {M N : Mm} (n : Nat) (x0 b : Int) (h : JA σ c M N) (hc : c ≤ 900) : SA σ (c + 1) (f_H_beginc3 n x0 b M) (f_m_body n b N) := ja_begin n b h hc
theorem ja_beg4 {σ : Mm} {c : Int} {M N : Mm} (n : Nat) (x0 b : Int) (h : JA σ c M N) (hc : c ≤ 900) : SA σ (c + 1) (f_H_beginc4 n x0 b M) (f_m_body n b N) := ja_begin n b h hc
theorem ja_beg5 {σ : Mm} {c : Int} {M N : Mm} (n : Nat) (x0 b : Int) (h : JA σ c M N) (hc : c ≤ 900) : SA σ (c + 1) (f_H_beginc5 n x0 b M) (f_m_body n b N) := ja_begin n b h hc
theorem pV0 {σ : Mm} {c : Int} {M N : Mm} (n : Nat) {i : Nat} (hi : i < 16) (hh : (i : Int) < σ 0 1) (x : Int) (h : JA σ c M N) (hc : c + 1 ≤ 880) : SA σ (c + 1) (f_H_doVotesc0 n i x M) (f_m_plainVotes n i x N) := by
  unfold f_H_doVotesc0 f_m_plainVotes
  refine SA.bnd (ja_beg0 n _ _ h (by omega)) fun r0 M0 N0 h0 => ?_
  exact SA.ret (h0.mono (by omega)) _
theorem vB0 {σ : Mm} {c : Int} {M N : Mm} (n : Nat) {i : Nat} (hi : i < 16) (hh : (i : Int) < σ 0 1) (hk : σ 1 i = 0) (x : Int) (h : JA σ c M N) (hc : c + 1 ≤ 880) : SA σ (c + 1) (f_H_doVotesc0 n i x M) (f_m_votesBy n i x N) := by
  unfold f_m_votesBy
  simp only [ckp (show (0 : Int) ≤ (i : Int) ∧ (i : Int) < 16 by omega), Int.toNat_natCast, h.kd, ifp (show σ 1 i ≠ 1 by omega), ifp (show σ 1 i ≠ 3 by omega), ifp (show σ 1 i ≠ 5 by omega), bnd_id]
  exact pV0 n hi hh x h hc
theorem pO0 {σ : Mm} {c : Int} {M N : Mm} (n : Nat) {i : Nat} (hi : i < 16) (hh : (i : Int) < σ 0 1) (hk : σ 1 i = 0) (x : Int) (h : JA σ c M N) (hc : c + 2 ≤ 880) : SA σ (c + 2) (f_H_doOwnsc0 n i x M) (f_m_plainOwns n i x N) := by
  unfold f_H_doOwnsc0 f_m_plainOwns
  refine SA.bnd (ja_beg0 n _ _ h (by omega)) fun r0 M0 N0 h0 => ?_
  refine SA.bnd (vB0 n hi hh hk _ h0 (by omega)) fun r1 M1 N1 h1 => ?_
  exact SA.ret (h1.mono (by omega)) _
theorem oB0 {σ : Mm} {c : Int} {M N : Mm} (n : Nat) {i : Nat} (hi : i < 16) (hh : (i : Int) < σ 0 1) (hk : σ 1 i = 0) (x : Int) (h : JA σ c M N) (hc : c + 2 ≤ 880) : SA σ (c + 2) (f_H_doOwnsc0 n i x M) (f_m_ownsBy n i x N) := by
  unfold f_m_ownsBy
  simp only [ckp (show (0 : Int) ≤ (i : Int) ∧ (i : Int) < 16 by omega), Int.toNat_natCast, h.kd, ifp (show σ 1 i ≠ 2 by omega), ifp (show σ 1 i ≠ 3 by omega), bnd_id]
  exact pO0 n hi hh hk x h hc
theorem pR0 {σ : Mm} {c : Int} {M N : Mm} (n : Nat) {i : Nat} (hi : i < 16) (hh : (i : Int) < σ 0 1) (hk : σ 1 i = 0) (x : Int) (h : JA σ c M N) (hc : c + 3 ≤ 880) : SA σ (c + 3) (f_H_doRulesc0 n i x M) (f_m_plainRules n i x N) := by
  unfold f_H_doRulesc0 f_m_plainRules
  simp only [ckp (show (0 : Int) ≤ (i : Int) ∧ (i : Int) < 16 by omega), Int.toNat_natCast]
  refine SA.bnd (ja_beg0 n _ _ h (by omega)) fun r0 M0 N0 h0 => ?_
  refine SA.bnd (oB0 n hi hh hk _ h0 (by omega)) fun r1 M1 N1 h1 => ?_
  rw [(h1.hl hh).2, h1.fa]
  exact SA.ret (h1.mono (by omega)) _
theorem rB0 {σ : Mm} {c : Int} {M N : Mm} (n : Nat) {i : Nat} (hi : i < 16) (hh : (i : Int) < σ 0 1) (hk : σ 1 i = 0) (x : Int) (h : JA σ c M N) (hc : c + 3 ≤ 880) : SA σ (c + 3) (f_H_doRulesc0 n i x M) (f_m_rulesBy n i x N) := by
  unfold f_m_rulesBy
  simp only [ckp (show (0 : Int) ≤ (i : Int) ∧ (i : Int) < 16 by omega), Int.toNat_natCast, h.kd, ifp (show σ 1 i ≠ 1 by omega), ifp (show σ 1 i ≠ 4 by omega), ifp (show σ 1 i ≠ 5 by omega), bnd_id]
  exact pR0 n hi hh hk x h hc
theorem pV1 {σ : Mm} {c : Int} {M N : Mm} (n : Nat) {i : Nat} (hi : i < 16) (hh : (i : Int) < σ 0 1) (x : Int) (h : JA σ c M N) (hc : c + 1 ≤ 880) : SA σ (c + 1) (f_H_doVotesc1 n i x M) (f_m_plainVotes n i x N) := by
  unfold f_H_doVotesc1 f_m_plainVotes
  refine SA.bnd (ja_beg1 n _ _ h (by omega)) fun r0 M0 N0 h0 => ?_
  exact SA.ret (h0.mono (by omega)) _
theorem vB1 {σ : Mm} {c : Int} {M N : Mm} (n : Nat) {i : Nat} (hi : i < 16) (hh : (i : Int) < σ 0 1) (hk : σ 1 i = 1) (x : Int) (h : JA σ c M N) (hc : c + 2 ≤ 880) : SA σ (c + 2) (f_Hf_doVotesc1 n i x M) (f_m_votesBy n i x N) := by
  unfold f_Hf_doVotesc1 f_m_votesBy
  simp only [ckp (show (0 : Int) ≤ (i : Int) ∧ (i : Int) < 16 by omega), Int.toNat_natCast, h.kd, ifn (show ¬ σ 1 i ≠ 1 by omega)]
  refine SA.bnd (ja_beg1 n _ _ h (by omega)) fun r0 M0 N0 h0 => ?_
  refine SA.bnd (pV1 n hi hh _ h0 (by omega)) fun r1 M1 N1 h1 => ?_
  exact SA.ret (h1.mono (by omega)) _
theorem pO1 {σ : Mm} {c : Int} {M N : Mm} (n : Nat) {i : Nat} (hi : i < 16) (hh : (i : Int) < σ 0 1) (hk : σ 1 i = 1) (x : Int) (h : JA σ c M N) (hc : c + 3 ≤ 880) : SA σ (c + 3) (f_H_doOwnsc1 n i x M) (f_m_plainOwns n i x N) := by
  unfold f_H_doOwnsc1 f_m_plainOwns
  refine SA.bnd (ja_beg1 n _ _ h (by omega)) fun r0 M0 N0 h0 => ?_
  refine SA.bnd (vB1 n hi hh hk _ h0 (by omega)) fun r1 M1 N1 h1 => ?_
  exact SA.ret (h1.mono (by omega)) _
theorem oB1 {σ : Mm} {c : Int} {M N : Mm} (n : Nat) {i : Nat} (hi : i < 16) (hh : (i : Int) < σ 0 1) (hk : σ 1 i = 1) (x : Int) (h : JA σ c M N) (hc : c + 3 ≤ 880) : SA σ (c + 3) (f_H_doOwnsc1 n i x M) (f_m_ownsBy n i x N) := by
  unfold f_m_ownsBy
  simp only [ckp (show (0 : Int) ≤ (i : Int) ∧ (i : Int) < 16 by omega), Int.toNat_natCast, h.kd, ifp (show σ 1 i ≠ 2 by omega), ifp (show σ 1 i ≠ 3 by omega), bnd_id]
  exact pO1 n hi hh hk x h hc
theorem pR1 {σ : Mm} {c : Int} {M N : Mm} (n : Nat) {i : Nat} (hi : i < 16) (hh : (i : Int) < σ 0 1) (hk : σ 1 i = 1) (x : Int) (h : JA σ c M N) (hc : c + 4 ≤ 880) : SA σ (c + 4) (f_H_doRulesc1 n i x M) (f_m_plainRules n i x N) := by
  unfold f_H_doRulesc1 f_m_plainRules
  simp only [ckp (show (0 : Int) ≤ (i : Int) ∧ (i : Int) < 16 by omega), Int.toNat_natCast]
  refine SA.bnd (ja_beg1 n _ _ h (by omega)) fun r0 M0 N0 h0 => ?_
  refine SA.bnd (oB1 n hi hh hk _ h0 (by omega)) fun r1 M1 N1 h1 => ?_
  rw [(h1.hl hh).2, h1.fa]
  exact SA.ret (h1.mono (by omega)) _
theorem rB1 {σ : Mm} {c : Int} {M N : Mm} (n : Nat) {i : Nat} (hi : i < 16) (hh : (i : Int) < σ 0 1) (hk : σ 1 i = 1) (x : Int) (h : JA σ c M N) (hc : c + 7 ≤ 880) : SA σ (c + 7) (f_Hf_doRulesc1 n i x M) (f_m_rulesBy n i x N) := by
  unfold f_Hf_doRulesc1 f_m_rulesBy
  simp only [ckp (show (0 : Int) ≤ (i : Int) ∧ (i : Int) < 16 by omega), Int.toNat_natCast, h.kd, ifn (show ¬ σ 1 i ≠ 1 by omega)]
  refine SA.bnd (ja_beg1 n _ _ h (by omega)) fun r0 M0 N0 h0 => ?_
  refine SA.bnd (pR1 n hi hh hk _ h0 (by omega)) fun r1 M1 N1 h1 => ?_
  refine SA.bnd (vB1 n hi hh hk _ h1 (by omega)) fun r2 M2 N2 h2 => ?_
  exact SA.ret (h2.mono (by omega)) _
theorem pV2 {σ : Mm} {c : Int} {M N : Mm} (n : Nat) {i : Nat} (hi : i < 16) (hh : (i : Int) < σ 0 1) (x : Int) (h : JA σ c M N) (hc : c + 1 ≤ 880) : SA σ (c + 1) (f_H_doVotesc2 n i x M) (f_m_plainVotes n i x N) := by
  unfold f_H_doVotesc2 f_m_plainVotes
  refine SA.bnd (ja_beg2 n _ _ h (by omega)) fun r0 M0 N0 h0 => ?_
  exact SA.ret (h0.mono (by omega)) _
theorem vB2 {σ : Mm} {c : Int} {M N : Mm} (n : Nat) {i : Nat} (hi : i < 16) (hh : (i : Int) < σ 0 1) (hk : σ 1 i = 2) (x : Int) (h : JA σ c M N) (hc : c + 1 ≤ 880) : SA σ (c + 1) (f_H_doVotesc2 n i x M) (f_m_votesBy n i x N) := by
  unfold f_m_votesBy
  simp only [ckp (show (0 : Int) ≤ (i : Int) ∧ (i : Int) < 16 by omega), Int.toNat_natCast, h.kd, ifp (show σ 1 i ≠ 1 by omega), ifp (show σ 1 i ≠ 3 by omega), ifp (show σ 1 i ≠ 5 by omega), bnd_id]
  exact pV2 n hi hh x h hc
theorem pO2 {σ : Mm} {c : Int} {M N : Mm} (n : Nat) {i : Nat} (hi : i < 16) (hh : (i : Int) < σ 0 1) (hk : σ 1 i = 2) (x : Int) (h : JA σ c M N) (hc : c + 2 ≤ 880) : SA σ (c + 2) (f_H_doOwnsc2 n i x M) (f_m_plainOwns n i x N) := by
  unfold f_H_doOwnsc2 f_m_plainOwns
  refine SA.bnd (ja_beg2 n _ _ h (by omega)) fun r0 M0 N0 h0 => ?_
  refine SA.bnd (vB2 n hi hh hk _ h0 (by omega)) fun r1 M1 N1 h1 => ?_
  exact SA.ret (h1.mono (by omega)) _
theorem eO2 {σ : Mm} {c : Int} {M N : Mm} (n : Nat) {i : Nat} (hi : i < 16) (hh : (i : Int) < σ 0 1) (hk : σ 1 i = 2) (x : Int) (h : JA σ c M N) (hc : c + 3 ≤ 880) : SA σ (c + 3) (f_Hp_doOwnsc2 n i x M) (f_m_personOwns n i x N) := by
  unfold f_Hp_doOwnsc2 f_m_personOwns
  refine SA.bnd (ja_beg2 n _ _ h (by omega)) fun r0 M0 N0 h0 => ?_
  refine SA.bnd (pO2 n hi hh hk _ h0 (by omega)) fun r1 M1 N1 h1 => ?_
  exact SA.ret (h1.mono (by omega)) _
theorem oB2 {σ : Mm} {c : Int} {M N : Mm} (n : Nat) {i : Nat} (hi : i < 16) (hh : (i : Int) < σ 0 1) (hk : σ 1 i = 2) (x : Int) (h : JA σ c M N) (hc : c + 3 ≤ 880) : SA σ (c + 3) (f_Hp_doOwnsc2 n i x M) (f_m_ownsBy n i x N) := by
  unfold f_m_ownsBy
  simp only [ckp (show (0 : Int) ≤ (i : Int) ∧ (i : Int) < 16 by omega), Int.toNat_natCast, h.kd, ifn (show ¬ σ 1 i ≠ 2 by omega), bnd_id]
  exact eO2 n hi hh hk x h hc
theorem pR2 {σ : Mm} {c : Int} {M N : Mm} (n : Nat) {i : Nat} (hi : i < 16) (hh : (i : Int) < σ 0 1) (hk : σ 1 i = 2) (x : Int) (h : JA σ c M N) (hc : c + 4 ≤ 880) : SA σ (c + 4) (f_H_doRulesc2 n i x M) (f_m_plainRules n i x N) := by
  unfold f_H_doRulesc2 f_m_plainRules
  simp only [ckp (show (0 : Int) ≤ (i : Int) ∧ (i : Int) < 16 by omega), Int.toNat_natCast]
  refine SA.bnd (ja_beg2 n _ _ h (by omega)) fun r0 M0 N0 h0 => ?_
  refine SA.bnd (oB2 n hi hh hk _ h0 (by omega)) fun r1 M1 N1 h1 => ?_
  rw [(h1.hl hh).2, h1.fa]
  exact SA.ret (h1.mono (by omega)) _
theorem rB2 {σ : Mm} {c : Int} {M N : Mm} (n : Nat) {i : Nat} (hi : i < 16) (hh : (i : Int) < σ 0 1) (hk : σ 1 i = 2) (x : Int) (h : JA σ c M N) (hc : c + 4 ≤ 880) : SA σ (c + 4) (f_H_doRulesc2 n i x M) (f_m_rulesBy n i x N) := by
  unfold f_m_rulesBy
  simp only [ckp (show (0 : Int) ≤ (i : Int) ∧ (i : Int) < 16 by omega), Int.toNat_natCast, h.kd, ifp (show σ 1 i ≠ 1 by omega), ifp (show σ 1 i ≠ 4 by omega), ifp (show σ 1 i ≠ 5 by omega), bnd_id]
  exact pR2 n hi hh hk x h hc
theorem pV3 {σ : Mm} {c : Int} {M N : Mm} (n : Nat) {i : Nat} (hi : i < 16) (hh : (i : Int) < σ 0 1) (x : Int) (h : JA σ c M N) (hc : c + 1 ≤ 880) : SA σ (c + 1) (f_H_doVotesc3 n i x M) (f_m_plainVotes n i x N) := by
  unfold f_H_doVotesc3 f_m_plainVotes
  refine SA.bnd (ja_beg3 n _ _ h (by omega)) fun r0 M0 N0 h0 => ?_
  exact SA.ret (h0.mono (by omega)) _
theorem vB3 {σ : Mm} {c : Int} {M N : Mm} (n : Nat) {i : Nat} (hi : i < 16) (hh : (i : Int) < σ 0 1) (hk : σ 1 i = 3) (x : Int) (h : JA σ c M N) (hc : c + 2 ≤ 880) : SA σ (c + 2) (f_Hk_doVotesc3 n i x M) (f_m_votesBy n i x N) := by
  unfold f_Hk_doVotesc3 f_m_votesBy
  simp only [ckp (show (0 : Int) ≤ (i : Int) ∧ (i : Int) < 16 by omega), Int.toNat_natCast, h.kd, ifp (show σ 1 i ≠ 1 by omega), ifn (show ¬ σ 1 i ≠ 3 by omega)]
  refine SA.bnd (ja_beg3 n _ _ h (by omega)) fun r0 M0 N0 h0 => ?_
  refine SA.bnd (pV3 n hi hh _ h0 (by omega)) fun r1 M1 N1 h1 => ?_
  exact SA.ret (h1.mono (by omega)) _
theorem pO3 {σ : Mm} {c : Int} {M N : Mm} (n : Nat) {i : Nat} (hi : i < 16) (hh : (i : Int) < σ 0 1) (hk : σ 1 i = 3) (x : Int) (h : JA σ c M N) (hc : c + 3 ≤ 880) : SA σ (c + 3) (f_H_doOwnsc3 n i x M) (f_m_plainOwns n i x N) := by
  unfold f_H_doOwnsc3 f_m_plainOwns
  refine SA.bnd (ja_beg3 n _ _ h (by omega)) fun r0 M0 N0 h0 => ?_
  refine SA.bnd (vB3 n hi hh hk _ h0 (by omega)) fun r1 M1 N1 h1 => ?_
  exact SA.ret (h1.mono (by omega)) _
theorem eO3 {σ : Mm} {c : Int} {M N : Mm} (n : Nat) {i : Nat} (hi : i < 16) (hh : (i : Int) < σ 0 1) (hk : σ 1 i = 3) (x : Int) (h : JA σ c M N) (hc : c + 4 ≤ 880) : SA σ (c + 4) (f_Hp_doOwnsc3 n i x M) (f_m_personOwns n i x N) := by
  unfold f_Hp_doOwnsc3 f_m_personOwns
  refine SA.bnd (ja_beg3 n _ _ h (by omega)) fun r0 M0 N0 h0 => ?_
  refine SA.bnd (pO3 n hi hh hk _ h0 (by omega)) fun r1 M1 N1 h1 => ?_
  exact SA.ret (h1.mono (by omega)) _
theorem oB3 {σ : Mm} {c : Int} {M N : Mm} (n : Nat) {i : Nat} (hi : i < 16) (hh : (i : Int) < σ 0 1) (hk : σ 1 i = 3) (x : Int) (h : JA σ c M N) (hc : c + 6 ≤ 880) : SA σ (c + 6) (f_Hk_doOwnsc3 n i x M) (f_m_ownsBy n i x N) := by
  unfold f_Hk_doOwnsc3 f_m_ownsBy
  simp only [ckp (show (0 : Int) ≤ (i : Int) ∧ (i : Int) < 16 by omega), Int.toNat_natCast, h.kd, ifp (show σ 1 i ≠ 2 by omega), ifn (show ¬ σ 1 i ≠ 3 by omega)]
  refine SA.bnd (ja_beg3 n _ _ h (by omega)) fun r0 M0 N0 h0 => ?_
  refine SA.bnd (eO3 n hi hh hk _ h0 (by omega)) fun r1 M1 N1 h1 => ?_
  rw [(h1.hl hh).2, h1.fa]
  refine SA.bnd (pV3 n hi hh _ h1 (by omega)) fun r2 M2 N2 h2 => ?_
  exact SA.ret (h2.mono (by omega)) _
theorem pR3 {σ : Mm} {c : Int} {M N : Mm} (n : Nat) {i : Nat} (hi : i < 16) (hh : (i : Int) < σ 0 1) (hk : σ 1 i = 3) (x : Int) (h : JA σ c M N) (hc : c + 7 ≤ 880) : SA σ (c + 7) (f_H_doRulesc3 n i x M) (f_m_plainRules n i x N) := by
  unfold f_H_doRulesc3 f_m_plainRules
  simp only [ckp (show (0 : Int) ≤ (i : Int) ∧ (i : Int) < 16 by omega), Int.toNat_natCast]
  refine SA.bnd (ja_beg3 n _ _ h (by omega)) fun r0 M0 N0 h0 => ?_
  refine SA.bnd (oB3 n hi hh hk _ h0 (by omega)) fun r1 M1 N1 h1 => ?_
  rw [(h1.hl hh).2, h1.fa]
  exact SA.ret (h1.mono (by omega)) _
theorem rB3 {σ : Mm} {c : Int} {M N : Mm} (n : Nat) {i : Nat} (hi : i < 16) (hh : (i : Int) < σ 0 1) (hk : σ 1 i = 3) (x : Int) (h : JA σ c M N) (hc : c + 7 ≤ 880) : SA σ (c + 7) (f_H_doRulesc3 n i x M) (f_m_rulesBy n i x N) := by
  unfold f_m_rulesBy
  simp only [ckp (show (0 : Int) ≤ (i : Int) ∧ (i : Int) < 16 by omega), Int.toNat_natCast, h.kd, ifp (show σ 1 i ≠ 1 by omega), ifp (show σ 1 i ≠ 4 by omega), ifp (show σ 1 i ≠ 5 by omega), bnd_id]
  exact pR3 n hi hh hk x h hc
theorem pV4 {σ : Mm} {c : Int} {M N : Mm} (n : Nat) {i : Nat} (hi : i < 16) (hh : (i : Int) < σ 0 1) (x : Int) (h : JA σ c M N) (hc : c + 1 ≤ 880) : SA σ (c + 1) (f_H_doVotesc4 n i x M) (f_m_plainVotes n i x N) := by
  unfold f_H_doVotesc4 f_m_plainVotes
  refine SA.bnd (ja_beg4 n _ _ h (by omega)) fun r0 M0 N0 h0 => ?_
  exact SA.ret (h0.mono (by omega)) _
theorem vB4 {σ : Mm} {c : Int} {M N : Mm} (n : Nat) {i : Nat} (hi : i < 16) (hh : (i : Int) < σ 0 1) (hk : σ 1 i = 4) (x : Int) (h : JA σ c M N) (hc : c + 1 ≤ 880) : SA σ (c + 1) (f_H_doVotesc4 n i x M) (f_m_votesBy n i x N) := by
  unfold f_m_votesBy
  simp only [ckp (show (0 : Int) ≤ (i : Int) ∧ (i : Int) < 16 by omega), Int.toNat_natCast, h.kd, ifp (show σ 1 i ≠ 1 by omega), ifp (show σ 1 i ≠ 3 by omega), ifp (show σ 1 i ≠ 5 by omega), bnd_id]
  exact pV4 n hi hh x h hc
theorem pO4 {σ : Mm} {c : Int} {M N : Mm} (n : Nat) {i : Nat} (hi : i < 16) (hh : (i : Int) < σ 0 1) (hk : σ 1 i = 4) (x : Int) (h : JA σ c M N) (hc : c + 2 ≤ 880) : SA σ (c + 2) (f_H_doOwnsc4 n i x M) (f_m_plainOwns n i x N) := by
  unfold f_H_doOwnsc4 f_m_plainOwns
  refine SA.bnd (ja_beg4 n _ _ h (by omega)) fun r0 M0 N0 h0 => ?_
  refine SA.bnd (vB4 n hi hh hk _ h0 (by omega)) fun r1 M1 N1 h1 => ?_
  exact SA.ret (h1.mono (by omega)) _
theorem oB4 {σ : Mm} {c : Int} {M N : Mm} (n : Nat) {i : Nat} (hi : i < 16) (hh : (i : Int) < σ 0 1) (hk : σ 1 i = 4) (x : Int) (h : JA σ c M N) (hc : c + 2 ≤ 880) : SA σ (c + 2) (f_H_doOwnsc4 n i x M) (f_m_ownsBy n i x N) := by
  unfold f_m_ownsBy
  simp only [ckp (show (0 : Int) ≤ (i : Int) ∧ (i : Int) < 16 by omega), Int.toNat_natCast, h.kd, ifp (show σ 1 i ≠ 2 by omega), ifp (show σ 1 i ≠ 3 by omega), bnd_id]
  exact pO4 n hi hh hk x h hc
theorem pR4 {σ : Mm} {c : Int} {M N : Mm} (n : Nat) {i : Nat} (hi : i < 16) (hh : (i : Int) < σ 0 1) (hk : σ 1 i = 4) (x : Int) (h : JA σ c M N) (hc : c + 3 ≤ 880) : SA σ (c + 3) (f_H_doRulesc4 n i x M) (f_m_plainRules n i x N) := by
  unfold f_H_doRulesc4 f_m_plainRules
  simp only [ckp (show (0 : Int) ≤ (i : Int) ∧ (i : Int) < 16 by omega), Int.toNat_natCast]
  refine SA.bnd (ja_beg4 n _ _ h (by omega)) fun r0 M0 N0 h0 => ?_
  refine SA.bnd (oB4 n hi hh hk _ h0 (by omega)) fun r1 M1 N1 h1 => ?_
  rw [(h1.hl hh).2, h1.fa]
  exact SA.ret (h1.mono (by omega)) _
theorem fR4 {σ : Mm} {c : Int} {M N : Mm} (n : Nat) {i : Nat} (hi : i < 16) (hh : (i : Int) < σ 0 1) (hk : σ 1 i = 4) (x : Int) (h : JA σ c M N) (hc : c + 6 ≤ 880) : SA σ (c + 6) (f_Hu_doRulesc4 n i x M) (f_m_fundRules n i x N) := by
  unfold f_Hu_doRulesc4 f_m_fundRules
  refine SA.bnd (ja_beg4 n _ _ h (by omega)) fun r0 M0 N0 h0 => ?_
  refine SA.bnd (oB4 n hi hh hk _ h0 (by omega)) fun r1 M1 N1 h1 => ?_
  refine SA.bnd (pR4 n hi hh hk _ h1 (by omega)) fun r2 M2 N2 h2 => ?_
  exact SA.ret (h2.mono (by omega)) _
theorem rB4 {σ : Mm} {c : Int} {M N : Mm} (n : Nat) {i : Nat} (hi : i < 16) (hh : (i : Int) < σ 0 1) (hk : σ 1 i = 4) (x : Int) (h : JA σ c M N) (hc : c + 6 ≤ 880) : SA σ (c + 6) (f_Hu_doRulesc4 n i x M) (f_m_rulesBy n i x N) := by
  unfold f_m_rulesBy
  simp only [ckp (show (0 : Int) ≤ (i : Int) ∧ (i : Int) < 16 by omega), Int.toNat_natCast, h.kd, ifp (show σ 1 i ≠ 1 by omega), ifn (show ¬ σ 1 i ≠ 4 by omega), bnd_id]
  exact fR4 n hi hh hk x h hc
theorem pV5 {σ : Mm} {c : Int} {M N : Mm} (n : Nat) {i : Nat} (hi : i < 16) (hh : (i : Int) < σ 0 1) (x : Int) (h : JA σ c M N) (hc : c + 1 ≤ 880) : SA σ (c + 1) (f_H_doVotesc5 n i x M) (f_m_plainVotes n i x N) := by
  unfold f_H_doVotesc5 f_m_plainVotes
  refine SA.bnd (ja_beg5 n _ _ h (by omega)) fun r0 M0 N0 h0 => ?_
  exact SA.ret (h0.mono (by omega)) _
theorem vB5 {σ : Mm} {c : Int} {M N : Mm} (n : Nat) {i : Nat} (hi : i < 16) (hh : (i : Int) < σ 0 1) (hk : σ 1 i = 5) (x : Int) (h : JA σ c M N) (hc : c + 2 ≤ 880) : SA σ (c + 2) (f_Hc_doVotesc5 n i x M) (f_m_votesBy n i x N) := by
  unfold f_Hc_doVotesc5 f_m_votesBy
  simp only [ckp (show (0 : Int) ≤ (i : Int) ∧ (i : Int) < 16 by omega), Int.toNat_natCast, h.kd, ifp (show σ 1 i ≠ 1 by omega), ifp (show σ 1 i ≠ 3 by omega), ifn (show ¬ σ 1 i ≠ 5 by omega)]
  refine SA.bnd (ja_beg5 n _ _ h (by omega)) fun r0 M0 N0 h0 => ?_
  refine SA.bnd (pV5 n hi hh _ h0 (by omega)) fun r1 M1 N1 h1 => ?_
  exact SA.ret (h1.mono (by omega)) _
theorem pO5 {σ : Mm} {c : Int} {M N : Mm} (n : Nat) {i : Nat} (hi : i < 16) (hh : (i : Int) < σ 0 1) (hk : σ 1 i = 5) (x : Int) (h : JA σ c M N) (hc : c + 3 ≤ 880) : SA σ (c + 3) (f_H_doOwnsc5 n i x M) (f_m_plainOwns n i x N) := by
  unfold f_H_doOwnsc5 f_m_plainOwns
  refine SA.bnd (ja_beg5 n _ _ h (by omega)) fun r0 M0 N0 h0 => ?_
  refine SA.bnd (vB5 n hi hh hk _ h0 (by omega)) fun r1 M1 N1 h1 => ?_
  exact SA.ret (h1.mono (by omega)) _
theorem oB5 {σ : Mm} {c : Int} {M N : Mm} (n : Nat) {i : Nat} (hi : i < 16) (hh : (i : Int) < σ 0 1) (hk : σ 1 i = 5) (x : Int) (h : JA σ c M N) (hc : c + 3 ≤ 880) : SA σ (c + 3) (f_H_doOwnsc5 n i x M) (f_m_ownsBy n i x N) := by
  unfold f_m_ownsBy
  simp only [ckp (show (0 : Int) ≤ (i : Int) ∧ (i : Int) < 16 by omega), Int.toNat_natCast, h.kd, ifp (show σ 1 i ≠ 2 by omega), ifp (show σ 1 i ≠ 3 by omega), bnd_id]
  exact pO5 n hi hh hk x h hc
theorem pR5 {σ : Mm} {c : Int} {M N : Mm} (n : Nat) {i : Nat} (hi : i < 16) (hh : (i : Int) < σ 0 1) (hk : σ 1 i = 5) (x : Int) (h : JA σ c M N) (hc : c + 4 ≤ 880) : SA σ (c + 4) (f_H_doRulesc5 n i x M) (f_m_plainRules n i x N) := by
  unfold f_H_doRulesc5 f_m_plainRules
  simp only [ckp (show (0 : Int) ≤ (i : Int) ∧ (i : Int) < 16 by omega), Int.toNat_natCast]
  refine SA.bnd (ja_beg5 n _ _ h (by omega)) fun r0 M0 N0 h0 => ?_
  refine SA.bnd (oB5 n hi hh hk _ h0 (by omega)) fun r1 M1 N1 h1 => ?_
  rw [(h1.hl hh).2, h1.fa]
  exact SA.ret (h1.mono (by omega)) _
theorem fR5 {σ : Mm} {c : Int} {M N : Mm} (n : Nat) {i : Nat} (hi : i < 16) (hh : (i : Int) < σ 0 1) (hk : σ 1 i = 5) (x : Int) (h : JA σ c M N) (hc : c + 8 ≤ 880) : SA σ (c + 8) (f_Hu_doRulesc5 n i x M) (f_m_fundRules n i x N) := by
  unfold f_Hu_doRulesc5 f_m_fundRules
  refine SA.bnd (ja_beg5 n _ _ h (by omega)) fun r0 M0 N0 h0 => ?_
  refine SA.bnd (oB5 n hi hh hk _ h0 (by omega)) fun r1 M1 N1 h1 => ?_
  refine SA.bnd (pR5 n hi hh hk _ h1 (by omega)) fun r2 M2 N2 h2 => ?_
  exact SA.ret (h2.mono (by omega)) _
theorem rB5 {σ : Mm} {c : Int} {M N : Mm} (n : Nat) {i : Nat} (hi : i < 16) (hh : (i : Int) < σ 0 1) (hk : σ 1 i = 5) (x : Int) (h : JA σ c M N) (hc : c + 9 ≤ 880) : SA σ (c + 9) (f_Hc_doRulesc5 n i x M) (f_m_rulesBy n i x N) := by
  unfold f_Hc_doRulesc5 f_m_rulesBy
  simp only [ckp (show (0 : Int) ≤ (i : Int) ∧ (i : Int) < 16 by omega), Int.toNat_natCast, h.kd, ifp (show σ 1 i ≠ 1 by omega), ifp (show σ 1 i ≠ 4 by omega), ifn (show ¬ σ 1 i ≠ 5 by omega)]
  refine SA.bnd (ja_beg5 n _ _ h (by omega)) fun r0 M0 N0 h0 => ?_
  refine SA.bnd (fR5 n hi hh hk _ h0 (by omega)) fun r1 M1 N1 h1 => ?_
  exact SA.ret (h1.mono (by omega)) _
theorem SA.up {σ : Mm} {c c' : Int} {a b : Rr} (h : SA σ c a b) (hc : c ≤ c') : SA σ c' a b := by
  obtain ⟨r, M', N', e1, e2, e3⟩ := h
  exact ⟨r, M', N', e1, e2, e3.mono hc⟩
theorem a_dV {σ : Mm} {c : Int} {M N : Mm} (n : Nat) {i : Nat} (hi : i < 16) (hh : (i : Int) < σ 0 1) (x : Int) (h : JA σ c M N) (hc : c + 20 ≤ 880) : SA σ (c + 20) (g_dV n i x M) (f_m_votesBy n i x N) := by
  have b := h.1.1.2.2.1 i
  unfold g_dV
  simp only [Int.toNat_natCast, (h.hl hh).1]
  by_cases k0 : σ 1 i = 0
  · rw [k0]
    exact (vB0 n hi hh k0 x h (by omega)).up (by omega)
  by_cases k1 : σ 1 i = 1
  · rw [k1]
    exact (vB1 n hi hh k1 x h (by omega)).up (by omega)
  by_cases k2 : σ 1 i = 2
  · rw [k2]
    exact (vB2 n hi hh k2 x h (by omega)).up (by omega)
  by_cases k3 : σ 1 i = 3
  · rw [k3]
    exact (vB3 n hi hh k3 x h (by omega)).up (by omega)
  by_cases k4 : σ 1 i = 4
  · rw [k4]
    exact (vB4 n hi hh k4 x h (by omega)).up (by omega)
  by_cases k5 : σ 1 i = 5
  · rw [k5]
    exact (vB5 n hi hh k5 x h (by omega)).up (by omega)
  omega
theorem a_dO {σ : Mm} {c : Int} {M N : Mm} (n : Nat) {i : Nat} (hi : i < 16) (hh : (i : Int) < σ 0 1) (x : Int) (h : JA σ c M N) (hc : c + 20 ≤ 880) : SA σ (c + 20) (g_dO n i x M) (f_m_ownsBy n i x N) := by
  have b := h.1.1.2.2.1 i
  unfold g_dO
  simp only [Int.toNat_natCast, (h.hl hh).1]
  by_cases k0 : σ 1 i = 0
  · rw [k0]
    exact (oB0 n hi hh k0 x h (by omega)).up (by omega)
  by_cases k1 : σ 1 i = 1
  · rw [k1]
    exact (oB1 n hi hh k1 x h (by omega)).up (by omega)
  by_cases k2 : σ 1 i = 2
  · rw [k2]
    exact (oB2 n hi hh k2 x h (by omega)).up (by omega)
  by_cases k3 : σ 1 i = 3
  · rw [k3]
    exact (oB3 n hi hh k3 x h (by omega)).up (by omega)
  by_cases k4 : σ 1 i = 4
  · rw [k4]
    exact (oB4 n hi hh k4 x h (by omega)).up (by omega)
  by_cases k5 : σ 1 i = 5
  · rw [k5]
    exact (oB5 n hi hh k5 x h (by omega)).up (by omega)
  omega
theorem a_dR {σ : Mm} {c : Int} {M N : Mm} (n : Nat) {i : Nat} (hi : i < 16) (hh : (i : Int) < σ 0 1) (x : Int) (h : JA σ c M N) (hc : c + 20 ≤ 880) : SA σ (c + 20) (g_dR n i x M) (f_m_rulesBy n i x N) := by
  have b := h.1.1.2.2.1 i
  unfold g_dR
  simp only [Int.toNat_natCast, (h.hl hh).1]
  by_cases k0 : σ 1 i = 0
  · rw [k0]
    exact (rB0 n hi hh k0 x h (by omega)).up (by omega)
  by_cases k1 : σ 1 i = 1
  · rw [k1]
    exact (rB1 n hi hh k1 x h (by omega)).up (by omega)
  by_cases k2 : σ 1 i = 2
  · rw [k2]
    exact (rB2 n hi hh k2 x h (by omega)).up (by omega)
  by_cases k3 : σ 1 i = 3
  · rw [k3]
    exact (rB3 n hi hh k3 x h (by omega)).up (by omega)
  by_cases k4 : σ 1 i = 4
  · rw [k4]
    exact (rB4 n hi hh k4 x h (by omega)).up (by omega)
  by_cases k5 : σ 1 i = 5
  · rw [k5]
    exact (rB5 n hi hh k5 x h (by omega)).up (by omega)
  omega
theorem q_act {M N : Mm} (n : Nat) (x a v : Int) (hJ : J M N) : Sim (f_W_act n x a v M) (f_m_act n x a v N) := by
  obtain ⟨σ, hI, hA, hC⟩ := hJ
  have bh := hI.1.2.1
  have h0 : JA σ 0 (mset M 10 20 0) (mset N 0 71 0) := by
    refine ⟨hI, 0, σ 46, ⟨by decide, by decide⟩, ?_, ?_⟩
    · have e : sA σ 0 (σ 46) = mset σ 0 71 0 := by
        unfold sA
        congr 1
        funext k
        by_cases e : k = 46
        · subst e; rw [mr_eq]
        · rw [mr_ne e]
      rw [e]
      exact hA.set 0 71 0
    · obtain ⟨k1, k2, k3, k4, k5, k6⟩ := hC
      refine ⟨k1, k2, k3, k4, k5, ⟨by show (0 : Int) ≤ 0; decide, by show (0 : Int) ≤ 1000; decide⟩, ?_, ?_⟩
      · show mset M 10 20 0 10 20 = 0
        rw [mg_s]
      · intro j h1 h2
        replace h2 : (j : Int) < 0 := h2
        omega
  have a1 : mset N 0 71 0 0 1 = σ 0 1 := by rw [mg_j _ _ _ (by decide)]; exact hA 0 1 rfl
  have m11 : mset M 10 20 0 1 1 = σ 0 1 := hC.1.2.1
  have m16 : mset M 10 20 0 16 0 = σ 0 1 := hC.1.2.2.2.2.1
  unfold f_W_act f_m_act f_R_holderAt
  rw [e_R_isHolder, bnd_mk, e_m_isHolder n _ x (by rw [a1]; exact bh), bnd_mk, m11, a1]
  by_cases c : 0 ≤ x ∧ x < σ 0 1
  · obtain ⟨i, rfl⟩ := nat_of c.1
    rw [ifp c, ifn (show ¬ (1 : Int) = 0 by decide), ckp (by omega), m16, ifp c.2, bnd_mk, ifn (show ¬ (500 + (i : Int) < 0) by omega), ifn (show ¬ (1 : Int) = 0 by decide), show 500 + (i : Int) - 500 = i by omega, e_m_in, bnd_mk]
    simp only [bnd_id]
    by_cases c0 : a = 0
    · rw [ifp c0, ifp (show 0 ≤ a ∧ a ≤ 2 by omega), n1, ifn (show ¬ a ≠ 0 by omega)]
      exact (a_dV n (by omega) c.2 v h0 (by decide)).sim
    · rw [ifn c0]
      by_cases c1 : a = 1
      · rw [ifp c1, ifp (show 0 ≤ a ∧ a ≤ 2 by omega), n1, ifp (show a ≠ 0 from c0), ifn (show ¬ a ≠ 1 by omega)]
        exact (a_dO n (by omega) c.2 v h0 (by decide)).sim
      · rw [ifn c1]
        by_cases c2 : a = 2
        · rw [ifp c2, ifp (show 0 ≤ a ∧ a ≤ 2 by omega), n1, ifp (show a ≠ 0 from c0), ifp (show a ≠ 1 from c1)]
          exact (a_dR n (by omega) c.2 v h0 (by decide)).sim
        · rw [ifn c2, ifn (show ¬ (0 ≤ a ∧ a ≤ 2) by omega), n0]
          exact Sim.same h0.J _
  · rw [ifn c, ifp (show (0 : Int) = 0 from rfl), bnd_mk, ifp (show (-1 : Int) < 0 by decide), ifp (show (0 : Int) = 0 from rfl)]
    exact Sim.same h0.J _
theorem q_taken {M N : Mm} (n : Nat) (x k : Int) (hJ : J M N) : Sim (f_W_taken n x k M) (f_m_taken n x k N) := by
  have hJ0 := hJ
  obtain ⟨σ, hI, hA, hC⟩ := hJ
  have bh := hI.1.2.1
  have a1 : N 0 1 = σ 0 1 := hA 0 1 rfl
  have aK : N 1 = σ 1 := hA.row fun _ => rfl
  have m11 : M 1 1 = σ 0 1 := hC.1.2.1
  have m16 : M 16 0 = σ 0 1 := hC.1.2.2.2.2.1
  have m17 : M 17 = σ 1 := hC.1.2.2.2.2.2.1
  unfold f_W_taken f_m_taken f_R_holderAt
  rw [e_m_in, bnd_mk]
  by_cases c : 0 ≤ k ∧ k ≤ 5
  · rw [ifn (show ¬ (k < 0 ∨ 5 < k) by omega), ifp c, n1, e_R_isHolder, bnd_mk, e_m_isHolder n _ x (by rw [a1]; exact bh), bnd_mk, m11, a1]
    by_cases c2 : 0 ≤ x ∧ x < σ 0 1
    · obtain ⟨i, rfl⟩ := nat_of c2.1
      rw [ifp c2, ifn (show ¬ (1 : Int) = 0 by decide), ckp (by omega), m16, ifp c2.2, bnd_mk, ifn (show ¬ (500 + (i : Int) < 0) by omega), n1, show 500 + (i : Int) - 500 = i by omega]
      have b := hI.1.2.2.1 i
      have e9 := (hC.1.2.2.2.2.2.2.2.2.2 i c2.2).1
      unfold g_dU f_m_taken_53 f_m_taken_68 f_m_taken_77
      simp only [ckp (show (0 : Int) ≤ (i : Int) ∧ (i : Int) < 16 by omega), Int.toNat_natCast, aK, e9]
      have hk6 : k = 0 ∨ k = 1 ∨ k = 2 ∨ k = 3 ∨ k = 4 ∨ k = 5 := by omega
      have hs6 : σ 1 i = 0 ∨ σ 1 i = 1 ∨ σ 1 i = 2 ∨ σ 1 i = 3 ∨ σ 1 i = 4 ∨ σ 1 i = 5 := by omega
      rcases hs6 with e | e | e | e | e | e <;> simp only [e] <;> rcases hk6 with rfl | rfl | rfl | rfl | rfl | rfl <;> simp [f_H_isUnderc0, f_H_isUnderc1, f_H_isUnderc2, f_H_isUnderc3, f_H_isUnderc4, f_H_isUnderc5, bnd_mk, m17, e, ck] <;> exact Sim.same hJ0 _
    · rw [ifn c2, ifp (show (0 : Int) = 0 from rfl), bnd_mk, ifp (show (-1 : Int) < 0 by decide), n0]
      exact Sim.same hJ0 _
  · rw [ifp (show k < 0 ∨ 5 < k by omega), ifn c, n0]
    exact Sim.same hJ0 _
