/-! buy(..). -/
section
variable {σ : Mm} {M N : Mm}
/-- the picked ones, in the reference's row -/
def PKR (N σ : Mm) (P : Nat → Bool) : Prop := N 0 60 = (pkc 8 (σ 0 3).toNat P : Int) ∧ ∀ k, k < pkc 8 (σ 0 3).toNat P → N 38 k = (pkN (σ 0 3).toNat P k : Int)
theorem PKR.fr {N N' : Mm} {P : Nat → Bool} {L : List Nat} (h : PKR N σ P) (f : Fr cdR L N N') (h1 : L.elem 1060 = false) (h2 : L.elem 38 = false) : PKR N' σ P := ⟨(f 0 60 h1).trans h.1, fun k hk => (f 38 k h2).trans (h.2 k hk)⟩
/-- one that is good, at its turn -/
theorem e_m_good (n : Nat) (N : Mm) {P : Nat → Bool} {s : Nat} (hs : s < (σ 0 3).toNat) (hP : P s = true) (h60 : N 0 60 = ((min 8 (cn s P) : Nat) : Int)) (h38 : ∀ k, k < min 8 (cn s P) → N 38 k = (pkN (σ 0 3).toNat P k : Int)) : ∃ N', f_m_good n s N = some (0, N') ∧ Fr cdR [38, 1060] N N' ∧ N' 0 60 = ((min 8 (cn (s + 1) P) : Nat) : Int) ∧ ∀ k, k < min 8 (cn (s + 1) P) → N' 38 k = (pkN (σ 0 3).toNat P k : Int) := by
  unfold f_m_good
  rw [h60, cn_t hP]
  by_cases c : cn s P < 8
  · rw [ifp (by omega), ckp (by omega), Int.toNat_natCast, mg_k _ _ _ (show (0 : Nat) ≠ 38 by decide), h60, w_succ (by omega)]
    refine ⟨_, rfl, (Fr.rf.set rfl).set rfl, ?_, fun k hk => ?_⟩
    · rw [mg_s]; congr 1; omega
    · rw [mg_k _ _ _ (by decide), show min 8 (cn s P) = cn s P by omega]
      by_cases e : k = cn s P
      · rw [e, mg_s, pkN_eq hs hP]
      · rw [mg_j _ _ _ e]; exact h38 k (by omega)
  · rw [ifn (by omega)]
    refine ⟨N, rfl, Fr.rf, ?_, fun k hk => h38 k (by omega)⟩
    rw [h60]; congr 1; omega
theorem e_m_bitsOf (n : Nat) (hn : 3000 ≤ n) (hI : Inv σ) {P : Nat → Bool} (hK : PKR N σ P) {m : Nat} (hm : m < 4096) : f_m_bitsOf n m N = some (lbits (σ 0 3).toNat P m (pkc 8 (σ 0 3).toNat P), N) := by
  have b1 := hI.2.1.1
  have bK := pkc_le 8 (σ 0 3).toNat P
  have go : ∀ (r k g : Nat), k + r = pkc 8 (σ 0 3).toNat P → r < g → lp_m_bitsOf_5 n g m (lbits (σ 0 3).toNat P m k) k N = some (lbits (σ 0 3).toNat P m (pkc 8 (σ 0 3).toNat P), N) := by
    intro r
    induction r with
    | zero =>
      intro k g hk hg
      obtain ⟨g', rfl, _⟩ := f_pos hg
      show f_m_bitsOf_5 n (lp_m_bitsOf_5 n g') m _ k N = _
      unfold f_m_bitsOf_5
      rw [ifp (by rw [hK.1]; omega), show k = pkc 8 (σ 0 3).toNat P by omega]
    | succ r ih =>
      intro k g hk hg
      obtain ⟨g', rfl, hg'⟩ := f_pos hg
      show f_m_bitsOf_5 n (lp_m_bitsOf_5 n g') m _ k N = _
      have I := ih (k + 1) g' (by omega) hg'
      have e : lbits (σ 0 3).toNat P m (k + 1) = lor (lbits (σ 0 3).toNat P m k) (if m.testBit k = true then lsh 1 (pkN (σ 0 3).toNat P k) else 0) := rfl
      rw [e] at I
      unfold f_m_bitsOf_5 f_m_bitsOf_38
      rw [ifn (by rw [hK.1]; omega), bit_I (by omega), bI_testBit hm (by omega), w_succ (by omega), ckp (by omega), Int.toNat_natCast, hK.2 k (by omega)]
      by_cases c : m.testBit k = true
      · rw [ifp c, ifn (show ¬ (1 : Int) ≠ 1 by decide)]
        rw [ifp c] at I
        exact I
      · rw [ifn c, ifp (show (0 : Int) ≠ 1 by decide)]
        rw [ifn c] at I
        exact I
  exact go (pkc 8 (σ 0 3).toNat P) 0 n (by omega) (by omega)
/-- whose shares are, with a set of the picked ones a holder's -/
theorem RWo_S (hI : Inv σ) {N : Mm} (P : Nat → Bool) (K : Nat) {hx : Int} (m : Nat) (h : ∀ s : Nat, (s : Int) < σ 0 3 → if inS K P m s = true then ((N 22 s = hx ∧ N 23 s = σ 0 0 ∧ 0 ≤ hx) ∨ (N 22 s < 0 ∧ hx < 0)) else (N 22 s = (Wh σ s (σ 0 0)).1 ∧ N 23 s = (Wh σ s (σ 0 0)).2)) : RWo N σ (ownS σ K P hx m) (snS σ K P m) := by
  intro s hs
  have h1 := h s hs
  unfold ownS snS
  by_cases c : inS K P m s = true
  · rw [ifp c] at h1
    simp only [ifp c]
    exact h1
  · rw [ifn c] at h1
    simp only [ifn c]
    rcases ow_in hI hs (σ 0 0) with q | q
    · right
      rw [h1.1]
      exact ⟨by omega, by omega⟩
    · left
      rw [h1.1, h1.2]
      exact ⟨q.2.2.1.symm, q.2.2.2.1.symm, q.1⟩
theorem l_m_fb173 (n : Nat) (hn : 3000 ≤ n) (hI : Inv σ) (k61 : Int → Int → Int → Int → Int → Mm → Rr) {P : Nat → Bool} {r : Int} (hr : 0 ≤ r ∧ r < σ 0 1) {f : Nat} (hf : (f : Int) < σ 0 1) (x3 x4 : Int) {m : Nat} (hm : m < 4096) (x6 : Int) : ∀ (c k g : Nat) (N : Mm), k + c = pkc 8 (σ 0 3).toNat P → c < g → AgR N σ → PKR N σ P → (∀ s : Nat, (s : Int) < σ 0 3 → if inS k P m s = true then (N 22 s = r ∧ N 23 s = σ 0 0) else (N 22 s = (Wh σ s (σ 0 0)).1 ∧ N 23 s = (Wh σ s (σ 0 0)).2)) → ∃ N', lp_m_findBought_173 n k61 g r f x3 x4 m x6 k N = (if (lstS σ (σ 0 0) (ownS σ (pkc 8 (σ 0 3).toNat P) P r m) (snS σ (pkc 8 (σ 0 3).toNat P) P m)).1 f = r then k61 r f 1 (pcn m) ((m + 1 : Nat) : Int) (mset (mset N' 0 62 x6) 0 61 (lbits (σ 0 3).toNat P m (pkc 8 (σ 0 3).toNat P))) else k61 r f x3 x4 ((m + 1 : Nat) : Int) N') ∧ AgR N' σ ∧ PKR N' σ P ∧ N' 0 61 = N 0 61 ∧ N' 0 62 = N 0 62 := by
  have b := hI.1.2.1
  have bt := hI.1.1
  have b1 := hI.2.1.1
  have bK := pkc_le 8 (σ 0 3).toNat P
  intro c
  induction c with
  | zero =>
    intro k g N hk hg hA hK hP
    obtain ⟨g', rfl, _⟩ := f_pos hg
    have e : k = pkc 8 (σ 0 3).toNat P := by omega
    subst e
    show ∃ N', f_m_findBought_173 n k61 (lp_m_findBought_173 n k61 g') r f x3 x4 m x6 _ N = _ ∧ _
    have hR : RWo N σ (ownS σ (pkc 8 (σ 0 3).toNat P) P r m) (snS σ (pkc 8 (σ 0 3).toNat P) P m) := RWo_S hI P _ m (fun s hs => by
      have := hP s hs
      by_cases z : inS (pkc 8 (σ 0 3).toNat P) P m s = true
      · rw [ifp z] at this ⊢; exact Or.inl ⟨this.1, this.2, hr.1⟩
      · rw [ifn z] at this ⊢; exact this)
    have hO := okO_S hI (pkc 8 (σ 0 3).toNat P) P (Or.inr hr) m
    obtain ⟨N1, g1, g2, g3⟩ := e_m_findVotes n hn hI hA bt hO hR
    have hA1 := hA.fr g2 (by decide)
    obtain ⟨N2, k1, k2, k3⟩ := e_m_findLeast n hn hI hA1 g3
    have hA2 := hA1.fr k2 (by decide)
    have hK2 := (hK.fr g2 rfl rfl).fr k2 rfl rfl
    have hok := okS_itr (σ := σ) hI (σ 0 0) (ownS σ (pkc 8 (σ 0 3).toNat P) P r m) (snS σ (pkc 8 (σ 0 3).toNat P) P m) 8
    have e29 : (N2 29 f = r) ↔ ((lstS σ (σ 0 0) (ownS σ (pkc 8 (σ 0 3).toNat P) P r m) (snS σ (pkc 8 (σ 0 3).toNat P) P m)).1 f = r) := by
      rw [k3.1 f (by omega)]
      have h2 := hok.2 f
      show (if (litr σ (σ 0 0) _ _ 8).1 f < 0 then (-1 : Int) else (litr σ (σ 0 0) _ _ 8).1 f) = r ↔ (litr σ (σ 0 0) _ _ 8).1 f = r
      rcases h2 with q | q
      · rw [q, ifp (by decide)]; omega
      · rw [ifn (by omega)]
    have hp := cn_le (fun i => m.testBit i) 12
    unfold f_m_findBought_173 f_m_findBought_282
    rw [ifp (by rw [hK.1]; omega), hA 0 0 rfl, g1, bnd_mk, k1, bnd_mk, ckp (by omega), Int.toNat_natCast, w_succ (by omega)]
    by_cases z : (lstS σ (σ 0 0) (ownS σ (pkc 8 (σ 0 3).toNat P) P r m) (snS σ (pkc 8 (σ 0 3).toNat P) P m)).1 f = r
    · have f62 : Fr cdR [1062] N2 (mset N2 0 62 x6) := Fr.rf.set rfl
      rw [ifp (e29.mpr z), e_m_ones n hn _ hm, bnd_mk, e_m_bitsOf n hn hI (hK2.fr f62 rfl rfl) hm, bnd_mk]
      refine ⟨N2, by rw [ifp z], hA2, hK2, (k2 0 61 rfl).trans (g2 0 61 rfl), (k2 0 62 rfl).trans (g2 0 62 rfl)⟩
    · rw [ifn (fun q => z (e29.mp q))]
      refine ⟨N2, by rw [ifn z], hA2, hK2, (k2 0 61 rfl).trans (g2 0 61 rfl), (k2 0 62 rfl).trans (g2 0 62 rfl)⟩
  | succ c ih =>
    intro k g N hk hg hA hK hP
    obtain ⟨g', rfl, hg'⟩ := f_pos hg
    show ∃ N', f_m_findBought_173 n k61 (lp_m_findBought_173 n k61 g') r f x3 x4 m x6 k N = _ ∧ _
    have hpk := pkN_in (P := P) (sh := (σ 0 3).toNat) (show k < cn (σ 0 3).toNat P by omega)
    have hkr := hK.2 k (by omega)
    generalize pkN (σ 0 3).toNat P k = q at hpk hkr
    have hin : ∀ s, s < (σ 0 3).toNat → s ≠ q → inS (k + 1) P m s = inS k P m s := by
      intro s hs hsq
      unfold inS
      cases h1 : P s with
      | false => rfl
      | true =>
        have : cn s P ≠ k := fun z => hsq (cn_inj h1 hpk.2.1 (by rw [z, hpk.2.2]))
        by_cases z : cn s P < k
        · rw [decide_eq_true z, decide_eq_true (show cn s P < k + 1 by omega)]
        · rw [decide_eq_false z, decide_eq_false (show ¬ cn s P < k + 1 by omega)]
    have hq1 : inS (k + 1) P m q = m.testBit k := by
      unfold inS
      rw [hpk.2.1, hpk.2.2, decide_eq_true (show k < k + 1 by omega)]; rfl
    have hq0 : inS k P m q = false := by
      unfold inS
      rw [hpk.2.1, hpk.2.2, decide_eq_false (show ¬ k < k by omega)]; rfl
    unfold f_m_findBought_173 f_m_findBought_224
    rw [ifn (by rw [hK.1]; omega), bit_I (by omega), bI_testBit hm (by omega)]
    simp only [ckp (show (0 : Int) ≤ (k : Int) ∧ (k : Int) < 12 by omega), Int.toNat_natCast, hkr, mg_k _ _ _ (show (38 : Nat) ≠ 22 by decide), mg_k _ _ _ (show (0 : Nat) ≠ 22 by decide), ckp (show (0 : Int) ≤ (q : Int) ∧ (q : Int) < 40 by omega), w_succ (show k < 2000000000 by omega), hA 0 0 rfl]
    by_cases z : m.testBit k = true
    · rw [ifp z, n1]
      have fr : Fr cdR [22, 23] N (mset (mset N 22 q r) 23 q (σ 0 0)) := (Fr.rf.set rfl).set rfl
      obtain ⟨N', k1, k2, k3, k4, k5⟩ := ih (k + 1) g' (mset (mset N 22 q r) 23 q (σ 0 0)) (by omega) hg' (hA.fr fr (by decide)) (hK.fr fr rfl rfl) (fun s hs => by
        by_cases e : s = q
        · rw [e, hq1, ifp z, mg_k _ _ _ (by decide), mg_s, mg_s]
          exact ⟨rfl, rfl⟩
        · rw [hin s (by omega) e, mg_k _ _ _ (by decide), mg_j _ _ _ e, mg_j _ _ _ e, mg_k _ _ _ (by decide)]
          exact hP s hs)
      exact ⟨N', k1, k2, k3, by rw [k4, mg_k _ _ _ (by decide), mg_k _ _ _ (by decide)], by rw [k5, mg_k _ _ _ (by decide), mg_k _ _ _ (by decide)]⟩
    · rw [ifn z, n0]
      exact ih (k + 1) g' N (by omega) hg' hA hK (fun s hs => by
        by_cases e : s = q
        · have := hP s hs
          rw [e, hq0] at this
          rw [e, hq1, ifn z]
          exact this
        · rw [hin s (by omega) e]; exact hP s hs)
theorem l_m_fb78 (n : Nat) (hn : 3000 ≤ n) (hI : Inv σ) (k61 : Int → Int → Int → Int → Int → Mm → Rr) {P : Nat → Bool} (hK : PKR N σ P) (hA : AgR N σ) (x1 x2 x3 x4 : Int) {m : Nat} (hm : m < 4096) : ∀ (c k g : Nat), k + c = pkc 8 (σ 0 3).toNat P → c < g → lp_m_findBought_78 n k61 g x1 x2 x3 x4 m (prS σ P m k) k N = (if x3 = 0 then f_m_findBought_162 n k61 x1 x2 x3 x4 m (prS σ P m (pkc 8 (σ 0 3).toNat P)) N else if N 0 62 < prS σ P m (pkc 8 (σ 0 3).toNat P) then f_m_findBought_282 n k61 x1 x2 x3 x4 m N else if prS σ P m (pkc 8 (σ 0 3).toNat P) ≠ N 0 62 then f_m_findBought_162 n k61 x1 x2 x3 x4 m (prS σ P m (pkc 8 (σ 0 3).toNat P)) N else if (pcn m : Int) < x4 then f_m_findBought_162 n k61 x1 x2 x3 x4 m (prS σ P m (pkc 8 (σ 0 3).toNat P)) N else f_m_findBought_282 n k61 x1 x2 x3 x4 m N) := by
  have b1 := hI.2.1.1
  have p3 := hI.2.1.2.2.1
  have bK := pkc_le 8 (σ 0 3).toNat P
  intro c
  induction c with
  | zero =>
    intro k g hk hg
    obtain ⟨g', rfl, _⟩ := f_pos hg
    have e : k = pkc 8 (σ 0 3).toNat P := by omega
    subst e
    show f_m_findBought_78 n k61 (lp_m_findBought_78 n k61 g') x1 x2 x3 x4 m _ _ N = _
    unfold f_m_findBought_78
    rw [ifp (by rw [hK.1]; omega), e_m_ones n hn N hm, bnd_mk]
  | succ c ih =>
    intro k g hk hg
    obtain ⟨g', rfl, hg'⟩ := f_pos hg
    show f_m_findBought_78 n k61 (lp_m_findBought_78 n k61 g') x1 x2 x3 x4 m _ k N = _
    have I := ih (k + 1) g' (by omega) hg'
    have e : prS σ P m (k + 1) = prS σ P m k + (if m.testBit k = true then σ 7 (pkN (σ 0 3).toNat P k) else 0) := rfl
    have s1 := prS_in hI P m k
    have s2 := p3 (pkN (σ 0 3).toNat P k)
    have hpk := pkN_in (P := P) (sh := (σ 0 3).toNat) (show k < cn (σ 0 3).toNat P by omega)
    rw [e] at I
    unfold f_m_findBought_78 f_m_findBought_116
    rw [ifn (by rw [hK.1]; omega), bit_I (by omega), bI_testBit hm (by omega), w_succ (by omega), ckp (by omega), Int.toNat_natCast, hK.2 k (by omega), ckp (by omega), Int.toNat_natCast, hA.row (k := 7) (fun _ => rfl)]
    by_cases z : m.testBit k = true
    · rw [ifp z, ifn (show ¬ (1 : Int) ≠ 1 by decide)]
      rw [ifp z] at I
      rw [w32_s (by omega) (by omega)]
      exact I
    · rw [ifn z, ifp (show (0 : Int) ≠ 1 by decide)]
      rw [ifn z] at I
      rw [w32_s (by omega) (by omega)]
      exact I
end
