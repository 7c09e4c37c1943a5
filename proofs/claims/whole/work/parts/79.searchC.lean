/-! The class's search among picked shares. -/
section
variable {σ : Mm} {M N : Mm}
/-- the picked ones, in the class's row -/
def PKC (M σ : Mm) (P : Nat → Bool) : Prop := M 4 3 = (pkc 8 (σ 0 3).toNat P : Int) ∧ ∀ k, k < pkc 8 (σ 0 3).toNat P → M 48 k = (pkN (σ 0 3).toNat P k : Int)
/-- whether a share is of a set of picked ones -/
def inS (K : Nat) (P : Nat → Bool) (m s : Nat) : Bool := P s && (decide (cn s P < K) && m.testBit (cn s P))
def ownS (σ : Mm) (K : Nat) (P : Nat → Bool) (hx : Int) (m : Nat) : Nat → Int := fun s => if inS K P m s = true then hx else ow σ s (σ 0 0)
def snS (σ : Mm) (K : Nat) (P : Nat → Bool) (m : Nat) : Nat → Int := fun s => if inS K P m s = true then σ 0 0 else si σ s (σ 0 0)
theorem PKC.fr {M M' : Mm} {P : Nat → Bool} {L : List Nat} (h : PKC M σ P) (f : Fr cdC L M M') (h1 : L.elem 1403 = false) (h2 : L.elem 48 = false) : PKC M' σ P := ⟨(f 4 3 h1).trans h.1, fun k hk => (f 48 k h2).trans (h.2 k hk)⟩
theorem pkc_le (mx sh : Nat) (P : Nat → Bool) : pkc mx sh P ≤ mx ∧ pkc mx sh P ≤ cn sh P := by unfold pkc; omega
theorem okO_S (hI : Inv σ) (K : Nat) (P : Nat → Bool) {hx : Int} (hh : hx < 0 ∨ (0 ≤ hx ∧ hx < σ 0 1)) (m : Nat) : okO σ (ownS σ K P hx m) (snS σ K P m) := by
  have bt := hI.1.1
  intro s hs
  unfold ownS snS
  by_cases c : inS K P m s = true
  · simp only [ifp c]; omega
  · simp only [ifn c]; exact okO_day hI (σ 0 0) s hs
/-- a picking loop's step, at share s -/
theorem pk_step {P : Nat → Bool} {s : Nat} (hs : s < (σ 0 3).toNat) (hP : P s = true) (h8 : cn s P < 8) {v : Int} (hv : v = (s : Int)) (M : Mm) (h48 : ∀ k, k < cn s P → M 48 k = (pkN (σ 0 3).toNat P k : Int)) : ∀ k, k < cn (s + 1) P → mset M 48 (cn s P) v 48 k = (pkN (σ 0 3).toNat P k : Int) := by
  intro k hk
  rw [cn_t hP] at hk
  by_cases e : k = cn s P
  · rw [e, mg_s, pkN_eq hs hP, hv]
  · rw [mg_j _ _ _ e]; exact h48 k (by omega)
theorem e_S_pickForSale (n : Nat) (hn : 3000 ≤ n) (hI : Inv σ) (hC : RelC M σ) (r : Int) (h25 : ∀ s : Nat, (s : Int) < σ 0 3 → M 25 s = ow σ s (σ 0 0)) : ∃ M', f_S_pickForSale n r M = some (0, M') ∧ Fr cdC [1403, 48] M M' ∧ PKC M' σ (fun s => decide (0 < σ 7 s ∧ ow σ s (σ 0 0) ≠ r)) := by
  have b1 := hI.2.1.1
  have go : ∀ (k s g : Nat) (M : Mm), s + k = (σ 0 3).toNat → k < g → RelC M σ → (∀ s : Nat, (s : Int) < σ 0 3 → M 25 s = ow σ s (σ 0 0)) → cn s (fun s => decide (0 < σ 7 s ∧ ow σ s (σ 0 0) ≠ r)) ≤ 8 → M 4 3 = (cn s (fun s => decide (0 < σ 7 s ∧ ow σ s (σ 0 0) ≠ r)) : Int) → (∀ k, k < cn s (fun s => decide (0 < σ 7 s ∧ ow σ s (σ 0 0) ≠ r)) → M 48 k = (pkN (σ 0 3).toNat (fun s => decide (0 < σ 7 s ∧ ow σ s (σ 0 0) ≠ r)) k : Int)) → ∃ M', lp_S_pickForSale_7 n g r s M = some (0, M') ∧ Fr cdC [1403, 48] M M' ∧ PKC M' σ (fun s => decide (0 < σ 7 s ∧ ow σ s (σ 0 0) ≠ r)) := by
    intro k
    induction k with
    | zero =>
      intro s g M hs hg hC h25 h8 h43 h48
      obtain ⟨g', rfl, _⟩ := f_pos hg
      have e : s = (σ 0 3).toNat := by omega
      subst e
      show ∃ M', f_S_pickForSale_7 n (lp_S_pickForSale_7 n g') r _ M = _ ∧ _
      have e2 : pkc 8 (σ 0 3).toNat (fun s => decide (0 < σ 7 s ∧ ow σ s (σ 0 0) ≠ r)) = cn (σ 0 3).toNat (fun s => decide (0 < σ 7 s ∧ ow σ s (σ 0 0) ≠ r)) := by unfold pkc; omega
      unfold f_S_pickForSale_7
      rw [ifp (by rw [hC.2.1.1]; omega)]
      exact ⟨M, rfl, Fr.rf, by rw [e2]; exact h43, by rw [e2]; exact h48⟩
    | succ k ih =>
      intro s g M hs hg hC h25 h8 h43 h48
      obtain ⟨g', rfl, hg'⟩ := f_pos hg
      show ∃ M', f_S_pickForSale_7 n (lp_S_pickForSale_7 n g') r s M = _ ∧ _
      unfold f_S_pickForSale_7 f_S_pickForSale_72
      rw [ifn (by rw [hC.2.1.1]; omega), h43]
      by_cases c8 : 8 ≤ (cn s (fun s => decide (0 < σ 7 s ∧ ow σ s (σ 0 0) ≠ r)) : Int)
      · rw [ifp c8]
        have hm := cn_mono (fun s => decide (0 < σ 7 s ∧ ow σ s (σ 0 0) ≠ r)) (show s ≤ (σ 0 3).toNat by omega)
        have e2 : pkc 8 (σ 0 3).toNat (fun s => decide (0 < σ 7 s ∧ ow σ s (σ 0 0) ≠ r)) = cn s (fun s => decide (0 < σ 7 s ∧ ow σ s (σ 0 0) ≠ r)) := by unfold pkc; omega
        exact ⟨M, rfl, Fr.rf, by rw [e2]; exact h43, by rw [e2]; exact h48⟩
      · rw [ifn c8]
        simp only [ckp (show (0 : Int) ≤ (s : Int) ∧ (s : Int) < 40 by omega), Int.toNat_natCast, hC.2.1.2.2.2.2.2.1, h25 s (by omega), w_succ (show s < 2000000000 by omega)]
        by_cases c : 0 < σ 7 s ∧ ow σ s (σ 0 0) ≠ r
        · have hP : (fun s => decide (0 < σ 7 s ∧ ow σ s (σ 0 0) ≠ r)) s = true := decide_eq_true c
          rw [ifn (show ¬ σ 7 s ≤ 0 by omega), ifn c.2, ckp (by omega), mg_k _ _ _ (show (4 : Nat) ≠ 48 by decide), h43, w_succ (by omega), ← cn_t hP]
          have fr : Fr cdC [1403, 48] M (mset (mset M 48 (cn s (fun s => decide (0 < σ 7 s ∧ ow σ s (σ 0 0) ≠ r))) s) 4 3 (cn (s + 1) (fun s => decide (0 < σ 7 s ∧ ow σ s (σ 0 0) ≠ r)))) := (Fr.rf.set rfl).set rfl
          obtain ⟨M2, k1, k2, k3⟩ := ih (s + 1) g' _ (by omega) hg' (hC.fr fr (by decide)) (fun y hy => by rw [fr 25 y rfl]; exact h25 y hy) (by rw [cn_t hP]; omega) (mg_s _ _ _ _) (fun k hk => by
            rw [mg_k _ _ _ (by decide)]
            exact pk_step (by omega) hP (by omega) rfl M h48 k hk)
          exact ⟨M2, k1, fr.trans k2, k3⟩
        · have hP : (fun s => decide (0 < σ 7 s ∧ ow σ s (σ 0 0) ≠ r)) s = false := decide_eq_false c
          have I := ih (s + 1) g' M (by omega) hg' hC h25 (by rw [cn_f hP]; exact h8) (by rw [cn_f hP]; exact h43) (by rw [cn_f hP]; exact h48)
          by_cases c1 : σ 7 s ≤ 0
          · rw [ifp c1]; exact I
          · rw [ifn c1, ifp (show ow σ s (σ 0 0) = r from Classical.byContradiction fun q => c ⟨by omega, q⟩)]; exact I
  have f0 : Fr cdC [1403, 48] M (mset M 4 3 0) := Fr.rf.set rfl
  obtain ⟨M2, k1, k2, k3⟩ := go (σ 0 3).toNat 0 n (mset M 4 3 0) (by omega) (by omega) (hC.fr f0 (by decide)) (fun y hy => by rw [f0 25 y rfl]; exact h25 y hy) (Nat.zero_le _) (mg_s _ _ _ _) (fun k hk => absurd hk (Nat.not_lt_zero k))
  exact ⟨M2, k1, f0.trans k2, k3⟩
theorem bI_testBit {m : Nat} (hm : m < 4096) {k : Nat} (hk : k < 32) : bI (m : Int) k = m.testBit k := by
  rw [bI_nat, decide_eq_true hk, Bool.true_and]
theorem e_S_sharesOf (n : Nat) (hn : 3000 ≤ n) (hI : Inv σ) {P : Nat → Bool} (hK : PKC M σ P) {m : Nat} (hm : m < 4096) : f_S_sharesOf n m M = some (lbits (σ 0 3).toNat P m (pkc 8 (σ 0 3).toNat P), M) := by
  have b1 := hI.2.1.1
  have bK := pkc_le 8 (σ 0 3).toNat P
  have go : ∀ (r k g : Nat), k + r = pkc 8 (σ 0 3).toNat P → r < g → lp_S_sharesOf_5 n g m (lbits (σ 0 3).toNat P m k) k M = some (lbits (σ 0 3).toNat P m (pkc 8 (σ 0 3).toNat P), M) := by
    intro r
    induction r with
    | zero =>
      intro k g hk hg
      obtain ⟨g', rfl, _⟩ := f_pos hg
      show f_S_sharesOf_5 n (lp_S_sharesOf_5 n g') m _ k M = _
      unfold f_S_sharesOf_5
      rw [ifp (by rw [hK.1]; omega), show k = pkc 8 (σ 0 3).toNat P by omega]
    | succ r ih =>
      intro k g hk hg
      obtain ⟨g', rfl, hg'⟩ := f_pos hg
      show f_S_sharesOf_5 n (lp_S_sharesOf_5 n g') m _ k M = _
      have I := ih (k + 1) g' (by omega) hg'
      have e : lbits (σ 0 3).toNat P m (k + 1) = lor (lbits (σ 0 3).toNat P m k) (if m.testBit k = true then lsh 1 (pkN (σ 0 3).toNat P k) else 0) := rfl
      rw [e] at I
      unfold f_S_sharesOf_5 f_S_sharesOf_38
      rw [ifn (by rw [hK.1]; omega), bit_I (by omega), bI_testBit hm (by omega), w_succ (by omega), ckp (by omega), Int.toNat_natCast, hK.2 k (by omega)]
      by_cases c : m.testBit k = true
      · rw [ifp c, ifn (show ¬ (1 : Int) ≠ 1 by decide)]
        rw [ifp c] at I
        exact I
      · rw [ifn c, ifp (show (0 : Int) ≠ 1 by decide)]
        rw [ifn c] at I
        exact I
  exact go (pkc 8 (σ 0 3).toNat P) 0 n (by omega) (by omega)
/-- the price of a set of picked shares -/
def prS (σ : Mm) (P : Nat → Bool) (m : Nat) (k : Nat) : Int := sm k (fun j => if m.testBit j = true then σ 7 (pkN (σ 0 3).toNat P j) else 0)
theorem prS_in (hI : Inv σ) (P : Nat → Bool) (m k : Nat) : 0 ≤ prS σ P m k ∧ prS σ P m k ≤ k * 999 := by
  have p3 := hI.2.1.2.2.1
  have hg : ∀ j, 0 ≤ (if m.testBit j = true then σ 7 (pkN (σ 0 3).toNat P j) else 0) ∧ (if m.testBit j = true then σ 7 (pkN (σ 0 3).toNat P j) else 0) ≤ 999 := by
    intro j
    have := p3 (pkN (σ 0 3).toNat P j)
    split
    · exact this
    · exact ⟨by decide, by decide⟩
  exact ⟨sm_nn (fun j _ => (hg j).1), sm_ub (fun j _ => (hg j).2)⟩
theorem e_R_priceOf (n : Nat) (hn : 3000 ≤ n) (hI : Inv σ) (hC : RelC M σ) (P : Nat → Bool) (m : Nat) {k : Nat} (hk : k ≤ cn (σ 0 3).toNat P) : f_R_priceOf n (lbits (σ 0 3).toNat P m k) M = some (prS σ P m k, M) := by
  have b1 := hI.2.1.1
  have p3 := hI.2.1.2.2.1
  have hx : ∀ s, s < (σ 0 3).toNat → bL (lbits (σ 0 3).toNat P m k) s = (P s && (decide (cn s P < k) && m.testBit (cn s P))) := by
    intro s hs
    rw [lbits_bit (by omega) P m k hk s, decide_eq_true hs, Bool.true_and]
  generalize hxe : lbits (σ 0 3).toNat P m k = x at hx
  have hg : ∀ s, 0 ≤ (if bL x s = true then σ 7 s else 0) ∧ (if bL x s = true then σ 7 s else 0) ≤ 999 := by
    intro s
    have := p3 s
    split
    · exact this
    · exact ⟨by decide, by decide⟩
  have go : ∀ (r s g : Nat), s + r = (σ 0 3).toNat → r < g → lp_R_priceOf_5 n g x (sm s (fun s => if bL x s = true then σ 7 s else 0)) s M = some (sm (σ 0 3).toNat (fun s => if bL x s = true then σ 7 s else 0), M) := by
    intro r
    induction r with
    | zero =>
      intro s g hs hg'
      obtain ⟨g', rfl, _⟩ := f_pos hg'
      show f_R_priceOf_5 n (lp_R_priceOf_5 n g') x _ s M = _
      unfold f_R_priceOf_5
      rw [ifp (by rw [hC.2.1.1]; omega), show s = (σ 0 3).toNat by omega]
    | succ r ih =>
      intro s g hs hg'
      obtain ⟨g', rfl, hg2⟩ := f_pos hg'
      show f_R_priceOf_5 n (lp_R_priceOf_5 n g') x _ s M = _
      have I := ih (s + 1) g' (by omega) hg2
      have e : sm (s + 1) (fun s => if bL x s = true then σ 7 s else 0) = sm s (fun s => if bL x s = true then σ 7 s else 0) + (if bL x s = true then σ 7 s else 0) := rfl
      rw [e] at I
      have s1 := sm_nn (g := fun s => if bL x s = true then σ 7 s else 0) (k := s) (fun h _ => (hg h).1)
      have s2 := sm_ub (g := fun s => if bL x s = true then σ 7 s else 0) (k := s) (B := 999) (fun h _ => (hg h).2)
      have s3 := hg s
      unfold f_R_priceOf_5 f_R_priceOf_37
      rw [ifn (by rw [hC.2.1.1]; omega), bit_L (by omega), w_succ (by omega), ckp (by omega), Int.toNat_natCast, hC.2.1.2.2.2.2.2.1]
      by_cases c : bL x s = true
      · rw [ifp c, ifn (show ¬ (1 : Int) ≠ 1 by decide)]
        rw [ifp c] at I s3
        rw [w32_s (by omega) (by omega)]
        exact I
      · rw [ifn c, ifp (show (0 : Int) ≠ 1 by decide)]
        rw [ifn c] at I
        rw [w32_s (by omega) (by omega)]
        exact I
  have h := go (σ 0 3).toNat 0 n (by omega) (by omega)
  unfold f_R_priceOf
  have e2 : sm (σ 0 3).toNat (fun s => if bL x s = true then σ 7 s else 0) = prS σ P m k := by
    rw [sm_congr (g' := fun s => if (P s && (decide (cn s P < k) && m.testBit (cn s P))) = true then σ 7 s else 0) (fun s hs => by simp only [hx s hs]), sm_pick (σ 7) P m k hk]
    rfl
  rw [e2] at h
  exact h
/-- LEAST, if a set of the picked shares had gone to a holder -/
theorem e_S_ruledAfter (n : Nat) (hn : 3000 ≤ n) (hI : Inv σ) (hC : RelC M σ) {P : Nat → Bool} (hK : PKC M σ P) (hL : LK M σ (σ 0 0)) (h25 : ∀ s : Nat, (s : Int) < σ 0 3 → M 25 s = ow σ s (σ 0 0) ∧ M 26 s = si σ s (σ 0 0)) (hU : ∀ s : Nat, (s : Int) < σ 0 3 → ¬ (P s = true ∧ cn s P < pkc 8 (σ 0 3).toNat P) → M 39 s = ow σ s (σ 0 0) ∧ M 40 s = wt σ (σ 0 0) (ow σ s (σ 0 0)) (si σ s (σ 0 0)) s) {hx : Int} (hh : hx < 0 ∨ (0 ≤ hx ∧ hx < σ 0 1)) {m : Nat} (hm : m < 4096) {f : Nat} (hf : (f : Int) < σ 0 1) (hF : isF (σ 1) f = true) : ∃ M', f_S_ruledAfter n m hx f M = some ((lstS σ (σ 0 0) (ownS σ (pkc 8 (σ 0 3).toNat P) P hx m) (snS σ (pkc 8 (σ 0 3).toNat P) P m)).1 f, M') ∧ RelC M' σ ∧ PKC M' σ P ∧ LK M' σ (σ 0 0) ∧ (∀ s : Nat, (s : Int) < σ 0 3 → M' 25 s = ow σ s (σ 0 0) ∧ M' 26 s = si σ s (σ 0 0)) ∧ (∀ s : Nat, (s : Int) < σ 0 3 → ¬ (P s = true ∧ cn s P < pkc 8 (σ 0 3).toNat P) → M' 39 s = ow σ s (σ 0 0) ∧ M' 40 s = wt σ (σ 0 0) (ow σ s (σ 0 0)) (si σ s (σ 0 0)) s) := by
  have b := hI.1.2.1
  have bt := hI.1.1
  have b1 := hI.2.1.1
  have bK := pkc_le 8 (σ 0 3).toNat P
  have go : ∀ (r k g : Nat) (M : Mm), k + r = pkc 8 (σ 0 3).toNat P → r < g → RelC M σ → PKC M σ P → LK M σ (σ 0 0) → (∀ s : Nat, (s : Int) < σ 0 3 → M 25 s = ow σ s (σ 0 0) ∧ M 26 s = si σ s (σ 0 0)) → (∀ s : Nat, (s : Int) < σ 0 3 → ¬ (P s = true ∧ cn s P < pkc 8 (σ 0 3).toNat P) → M 39 s = ow σ s (σ 0 0) ∧ M 40 s = wt σ (σ 0 0) (ow σ s (σ 0 0)) (si σ s (σ 0 0)) s) → (∀ s : Nat, (s : Int) < σ 0 3 → P s = true → cn s P < k → M 39 s = ownS σ (pkc 8 (σ 0 3).toNat P) P hx m s ∧ M 40 s = wt σ (σ 0 0) (ownS σ (pkc 8 (σ 0 3).toNat P) P hx m s) (snS σ (pkc 8 (σ 0 3).toNat P) P m s) s) → ∃ M', lp_S_ruledAfter_3 n g m hx f k M = some ((lstS σ (σ 0 0) (ownS σ (pkc 8 (σ 0 3).toNat P) P hx m) (snS σ (pkc 8 (σ 0 3).toNat P) P m)).1 f, M') ∧ RelC M' σ ∧ PKC M' σ P ∧ LK M' σ (σ 0 0) ∧ (∀ s : Nat, (s : Int) < σ 0 3 → M' 25 s = ow σ s (σ 0 0) ∧ M' 26 s = si σ s (σ 0 0)) ∧ (∀ s : Nat, (s : Int) < σ 0 3 → ¬ (P s = true ∧ cn s P < pkc 8 (σ 0 3).toNat P) → M' 39 s = ow σ s (σ 0 0) ∧ M' 40 s = wt σ (σ 0 0) (ow σ s (σ 0 0)) (si σ s (σ 0 0)) s) := by
    intro r
    induction r with
    | zero =>
      intro k g M hk hg hC hK hL h25 hU hP
      obtain ⟨g', rfl, _⟩ := f_pos hg
      show ∃ M', f_S_ruledAfter_3 n (lp_S_ruledAfter_3 n g') m hx f k M = _ ∧ _
      have hW : OW M σ (σ 0 0) (ownS σ (pkc 8 (σ 0 3).toNat P) P hx m) (snS σ (pkc 8 (σ 0 3).toNat P) P m) := by
        intro s hs
        by_cases c : P s = true ∧ cn s P < pkc 8 (σ 0 3).toNat P
        · exact hP s hs c.1 (by omega)
        · have e : inS (pkc 8 (σ 0 3).toNat P) P m s = false := by
            unfold inS
            cases h1 : P s with
            | false => rfl
            | true => rw [decide_eq_false (fun q => c ⟨h1, q⟩)]; rfl
          have := hU s hs c
          unfold ownS snS
          simp only [e, Bool.false_eq_true, if_false]
          exact this
      obtain ⟨M1, p1, p2, p3, p4⟩ := e_U_least n hn hI hC hL (okO_S hI _ P hh m) hW
      unfold f_S_ruledAfter_3
      rw [ifp (by rw [hK.1]; omega), p1, bnd_mk, ckp (by omega), Int.toNat_natCast, p4.1 f hf]
      refine ⟨M1, ?_, hC.fr p2 (by decide), hK.fr p2 rfl rfl, hL.fr hI p2 (by decide), fun s hs => by rw [p2 25 s rfl, p2 26 s rfl]; exact h25 s hs, fun s hs hc => by rw [p2 39 s rfl, p2 40 s rfl]; exact hU s hs hc⟩
      unfold bk
      rw [ifp hF]
    | succ r ih =>
      intro k g M hk hg hC hK hL h25 hU hP
      obtain ⟨g', rfl, hg'⟩ := f_pos hg
      show ∃ M', f_S_ruledAfter_3 n (lp_S_ruledAfter_3 n g') m hx f k M = _ ∧ _
      have hpk := pkN_in (P := P) (sh := (σ 0 3).toNat) (show k < cn (σ 0 3).toNat P by omega)
      generalize hq : pkN (σ 0 3).toNat P k = q at hpk
      have hqs : (q : Int) < σ 0 3 := by omega
      have hin : inS (pkc 8 (σ 0 3).toNat P) P m q = m.testBit k := by
        unfold inS
        rw [hpk.2.1, hpk.2.2, decide_eq_true (show k < pkc 8 (σ 0 3).toNat P by omega)]
        rfl
      have next : ∀ M1, Fr cdC [39, 40, 41] M M1 → M1 39 q = ownS σ (pkc 8 (σ 0 3).toNat P) P hx m q → M1 40 q = wt σ (σ 0 0) (ownS σ (pkc 8 (σ 0 3).toNat P) P hx m q) (snS σ (pkc 8 (σ 0 3).toNat P) P m q) q → (∀ j, j ≠ q → M1 39 j = M 39 j ∧ M1 40 j = M 40 j) → ∃ M', f_S_ruledAfter_54 n (lp_S_ruledAfter_3 n g') m hx f k M1 = some ((lstS σ (σ 0 0) (ownS σ (pkc 8 (σ 0 3).toNat P) P hx m) (snS σ (pkc 8 (σ 0 3).toNat P) P m)).1 f, M') ∧ RelC M' σ ∧ PKC M' σ P ∧ LK M' σ (σ 0 0) ∧ (∀ s : Nat, (s : Int) < σ 0 3 → M' 25 s = ow σ s (σ 0 0) ∧ M' 26 s = si σ s (σ 0 0)) ∧ (∀ s : Nat, (s : Int) < σ 0 3 → ¬ (P s = true ∧ cn s P < pkc 8 (σ 0 3).toNat P) → M' 39 s = ow σ s (σ 0 0) ∧ M' 40 s = wt σ (σ 0 0) (ow σ s (σ 0 0)) (si σ s (σ 0 0)) s) := by
        intro M1 f1 e1 e2 e3
        unfold f_S_ruledAfter_54
        rw [w_succ (by omega)]
        refine ih (k + 1) g' M1 (by omega) hg' (hC.fr f1 (by decide)) (hK.fr f1 rfl rfl) (hL.fr hI f1 (by decide)) (fun s hs => by rw [f1 25 s rfl, f1 26 s rfl]; exact h25 s hs) (fun s hs hc => ?_) (fun s hs hPs hcn => ?_)
        · have hsq : s ≠ q := by
            intro z
            subst z
            exact hc ⟨hpk.2.1, by rw [hpk.2.2]; omega⟩
          rw [(e3 s hsq).1, (e3 s hsq).2]
          exact hU s hs hc
        · by_cases z : s = q
          · subst z; exact ⟨e1, e2⟩
          · rw [(e3 s z).1, (e3 s z).2]
            refine hP s hs hPs ?_
            by_cases z2 : cn s P = k
            · exact absurd (cn_inj hPs hpk.2.1 (by rw [z2, hpk.2.2])) z
            · omega
      unfold f_S_ruledAfter_3
      rw [ifn (by rw [hK.1]; omega), bit_I (by omega), bI_testBit hm (by omega)]
      simp only [ckp (show (0 : Int) ≤ (k : Int) ∧ (k : Int) < 8 by omega), Int.toNat_natCast, hK.2 k (by omega), hq]
      have h25q := h25 q hqs
      by_cases c : m.testBit k = true
      · rw [ifp c, ifn (show ¬ (1 : Int) ≠ 1 by decide)]
        obtain ⟨M1, s1, s2, s3, s4, s5⟩ := e_U_suppose n hn hI hC bt hL hqs hx hh
        rw [s1, bnd_mk]
        have e1 : ownS σ (pkc 8 (σ 0 3).toNat P) P hx m q = hx := by unfold ownS; rw [hin, ifp c]
        have e2 : snS σ (pkc 8 (σ 0 3).toNat P) P m q = σ 0 0 := by unfold snS; rw [hin, ifp c]
        exact next M1 s2 (by rw [e1]; exact s3) (by rw [e1, e2]; exact s4) s5
      · rw [ifn c, ifp (show (0 : Int) ≠ 1 by decide)]
        obtain ⟨M1, s1, s2, s3, s4, s5⟩ := e_U_restore n hn hI hC bt hL hqs h25q.1 h25q.2 (okO_day hI (σ 0 0) q hqs)
        rw [s1, bnd_mk]
        have e1 : ownS σ (pkc 8 (σ 0 3).toNat P) P hx m q = ow σ q (σ 0 0) := by unfold ownS; rw [hin, ifn c]
        have e2 : snS σ (pkc 8 (σ 0 3).toNat P) P m q = si σ q (σ 0 0) := by unfold snS; rw [hin, ifn c]
        exact next M1 s2 (by rw [e1]; exact s3) (by rw [e1, e2]; exact s4) s5
  exact go (pkc 8 (σ 0 3).toNat P) 0 n M (by omega) (by omega) hC hK hL h25 hU (fun s _ _ h => absurd h (Nat.not_lt_zero _))
end
