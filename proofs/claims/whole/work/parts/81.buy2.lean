/-! buy(..): the two searches, side by side. -/
section
variable {σ : Mm} {M N : Mm}
theorem bL_neg {x : Int} (hx : in64 x) (h : bL x 63 = false) : 0 ≤ x := by
  have e : (Int64.ofInt x).toInt = x := Int64.toInt_ofInt_of_le (by have := hx.1; exact this) (by have := hx.2; show x < 9223372036854775808; omega)
  have e2 : (Int64.ofInt x).toBitVec.toInt = x := e
  have e3 : (Int64.ofInt x).toBitVec.msb = false := by rw [BitVec.msb_eq_getLsbD_last]; exact h
  rw [BitVec.toInt_eq_msb_cond, e3] at e2
  simp only [Bool.false_eq_true, if_false] at e2
  omega
theorem lbits_nn {sh : Nat} (hsh : sh ≤ 40) (P : Nat → Bool) (m : Nat) {k : Nat} (hk : k ≤ cn sh P) : 0 ≤ lbits sh P m k :=
  bL_neg (lbits_in sh P m k) (by rw [lbits_bit hsh P m k hk 63, decide_eq_false (by omega)]; rfl)
/-- the best so far -/
def bO : Option Nat → Int | none => -1 | some b => (b : Int)
def pO (σ : Mm) (P : Nat → Bool) : Option Nat → Int | none => 39961 | some b => prS σ P b (pkc 8 (σ 0 3).toNat P)
def fO : Option Nat → Int | none => 0 | some _ => 1
def cO : Option Nat → Int | none => 0 | some b => (pcn b : Int)
def btr (σ : Mm) (P : Nat → Bool) (m : Nat) : Option Nat → Bool
  | none => true
  | some b => decide (prS σ P m (pkc 8 (σ 0 3).toNat P) < prS σ P b (pkc 8 (σ 0 3).toNat P) ∨ (prS σ P m (pkc 8 (σ 0 3).toNat P) = prS σ P b (pkc 8 (σ 0 3).toNat P) ∧ pcn m < pcn b))
def lsm (σ : Mm) (P : Nat → Bool) (r : Int) (m f : Nat) : Int := (lstS σ (σ 0 0) (ownS σ (pkc 8 (σ 0 3).toNat P) P r m) (snS σ (pkc 8 (σ 0 3).toNat P) P m)).1 f
def nxO (σ : Mm) (P : Nat → Bool) (r : Int) (f m : Nat) (o : Option Nat) : Option Nat := if btr σ P m o = true ∧ lsm σ P r m f = r then some m else o
def RB (N σ : Mm) (P : Nat → Bool) (o : Option Nat) : Prop := ∀ b, o = some b → N 0 62 = prS σ P b (pkc 8 (σ 0 3).toNat P) ∧ N 0 61 = lbits (σ 0 3).toNat P b (pkc 8 (σ 0 3).toNat P)
theorem s_R162 (n : Nat) (hn : 3000 ≤ n) (hI : Inv σ) (k61 : Int → Int → Int → Int → Int → Mm → Rr) {P : Nat → Bool} {r : Int} (hr : 0 ≤ r ∧ r < σ 0 1) {f : Nat} (hf : (f : Int) < σ 0 1) (o : Option Nat) {m : Nat} (hm : m < 4096) {N : Mm} (hA : AgR N σ) (hK : PKR N σ P) (hB : RB N σ P o) : ∃ N', f_m_findBought_162 n k61 r f (fO o) (cO o) m (prS σ P m (pkc 8 (σ 0 3).toNat P)) N = k61 r f (fO (if lsm σ P r m f = r then some m else o)) (cO (if lsm σ P r m f = r then some m else o)) ((m + 1 : Nat) : Int) N' ∧ AgR N' σ ∧ PKR N' σ P ∧ RB N' σ P (if lsm σ P r m f = r then some m else o) := by
  have bK := pkc_le 8 (σ 0 3).toNat P
  obtain ⟨N1, g1, g2, g3⟩ := e_m_layOut n hn hI hA (σ 0 0)
  have hA1 := hA.fr g2 (by decide)
  have hK1 := hK.fr g2 rfl rfl
  obtain ⟨N2, k1, k2, k3, k4, k5⟩ := l_m_fb173 n hn hI k61 hr hf (fO o) (cO o) hm (prS σ P m (pkc 8 (σ 0 3).toNat P)) (pkc 8 (σ 0 3).toNat P) 0 n N1 (by omega) (by omega) hA1 hK1 (fun s hs => by
    have : inS 0 P m s = false := by unfold inS; rw [decide_eq_false (Nat.not_lt_zero _)]; simp
    rw [ifn (by rw [this]; decide)]
    exact g3 s hs)
  unfold f_m_findBought_162
  rw [hA 0 0 rfl, g1, bnd_mk]
  rw [show ((0 : Nat) : Int) = 0 from rfl] at k1
  rw [k1]
  have f62 : Fr cdR [1061, 1062] N2 (mset (mset N2 0 62 (prS σ P m (pkc 8 (σ 0 3).toNat P))) 0 61 (lbits (σ 0 3).toNat P m (pkc 8 (σ 0 3).toNat P))) := (Fr.rf.set rfl).set rfl
  by_cases z : lsm σ P r m f = r
  · have z' := z
    unfold lsm at z'
    simp only [ifp z, ifp z']
    refine ⟨_, rfl, k2.fr f62 (by decide), k3.fr f62 rfl rfl, fun b hb => ?_⟩
    injection hb with hb
    subst hb
    exact ⟨by rw [mg_j _ _ _ (by decide), mg_s], mg_s _ _ _ _⟩
  · have z' := z
    unfold lsm at z'
    simp only [ifn z, ifn z']
    refine ⟨_, rfl, k2, k3, fun b hb => ?_⟩
    have := hB b hb
    rw [k4, k5, g2 0 61 rfl, g2 0 62 rfl]
    exact this
theorem s_R (n : Nat) (hn : 3000 ≤ n) (hI : Inv σ) (k61 : Int → Int → Int → Int → Int → Mm → Rr) {P : Nat → Bool} {r : Int} (hr : 0 ≤ r ∧ r < σ 0 1) {f : Nat} (hf : (f : Int) < σ 0 1) (o : Option Nat) {m : Nat} (hm : m < 4096) {N : Mm} (hA : AgR N σ) (hK : PKR N σ P) (hB : RB N σ P o) : ∃ N', lp_m_findBought_78 n k61 n r f (fO o) (cO o) m 0 0 N = k61 r f (fO (nxO σ P r f m o)) (cO (nxO σ P r f m o)) ((m + 1 : Nat) : Int) N' ∧ AgR N' σ ∧ PKR N' σ P ∧ RB N' σ P (nxO σ P r f m o) := by
  have bK := pkc_le 8 (σ 0 3).toNat P
  have h78 := l_m_fb78 n hn hI k61 hK hA r f (fO o) (cO o) hm (pkc 8 (σ 0 3).toNat P) 0 n (by omega) (by omega)
  rw [show prS σ P m 0 = 0 from rfl, show ((0 : Nat) : Int) = 0 from rfl] at h78
  rw [h78]
  obtain ⟨N1, g1, g2, g3, g4⟩ := s_R162 n hn hI k61 hr hf o hm hA hK hB
  have stay : ∀ x : Option Nat, btr σ P m o = false → ∃ N', f_m_findBought_282 n k61 r f (fO o) (cO o) m N = k61 r f (fO (nxO σ P r f m o)) (cO (nxO σ P r f m o)) ((m + 1 : Nat) : Int) N' ∧ AgR N' σ ∧ PKR N' σ P ∧ RB N' σ P (nxO σ P r f m o) := by
    intro _ hb
    have e : nxO σ P r f m o = o := by unfold nxO; rw [ifn (fun q => by rw [hb] at q; exact absurd q.1 (by decide))]
    rw [e]
    unfold f_m_findBought_282
    rw [w_succ (by omega)]
    exact ⟨N, rfl, hA, hK, hB⟩
  have go : btr σ P m o = true → ∃ N', f_m_findBought_162 n k61 r f (fO o) (cO o) m (prS σ P m (pkc 8 (σ 0 3).toNat P)) N = k61 r f (fO (nxO σ P r f m o)) (cO (nxO σ P r f m o)) ((m + 1 : Nat) : Int) N' ∧ AgR N' σ ∧ PKR N' σ P ∧ RB N' σ P (nxO σ P r f m o) := by
    intro hb
    have e : nxO σ P r f m o = if lsm σ P r m f = r then some m else o := by
      unfold nxO
      by_cases z : lsm σ P r m f = r
      · rw [ifp z, ifp ⟨hb, z⟩]
      · rw [ifn z, ifn (fun q => z q.2)]
    rw [e]
    exact ⟨N1, g1, g2, g3, g4⟩
  cases o with
  | none =>
    rw [ifp (show fO none = 0 from rfl)]
    exact go rfl
  | some b =>
    have h2 := hB b rfl
    rw [ifn (show ¬ fO (some b) = 0 by show ¬ (1 : Int) = 0; decide), h2.1, show cO (some b) = (pcn b : Int) from rfl]
    rw [show cO (some b) = (pcn b : Int) from rfl] at stay go
    by_cases c1 : prS σ P b (pkc 8 (σ 0 3).toNat P) < prS σ P m (pkc 8 (σ 0 3).toNat P)
    · rw [ifp c1]
      exact stay none (decide_eq_false (by omega))
    · rw [ifn c1]
      by_cases c2 : prS σ P m (pkc 8 (σ 0 3).toNat P) ≠ prS σ P b (pkc 8 (σ 0 3).toNat P)
      · rw [ifp c2]
        exact go (decide_eq_true (by omega))
      · rw [ifn c2]
        by_cases c3 : (pcn m : Int) < (pcn b : Int)
        · rw [ifp c3]
          exact go (decide_eq_true (by omega))
        · rw [ifn c3]
          exact stay none (decide_eq_false (by omega))
/-- what holds in the class's loop over sets -/
def CSt (M σ : Mm) (P : Nat → Bool) : Prop := RelC M σ ∧ PKC M σ P ∧ LK M σ (σ 0 0) ∧ (∀ s : Nat, (s : Int) < σ 0 3 → M 25 s = ow σ s (σ 0 0) ∧ M 26 s = si σ s (σ 0 0)) ∧ ∀ s : Nat, (s : Int) < σ 0 3 → ¬ (P s = true ∧ cn s P < pkc 8 (σ 0 3).toNat P) → M 39 s = ow σ s (σ 0 0) ∧ M 40 s = wt σ (σ 0 0) (ow σ s (σ 0 0)) (si σ s (σ 0 0)) s
theorem s_C (n : Nat) (hn : 3000 ≤ n) (hI : Inv σ) (k28 : Int → Int → Int → Int → Int → Mm → Rr) {P : Nat → Bool} {r : Int} (hr : 0 ≤ r ∧ r < σ 0 1) {f : Nat} (hf : (f : Int) < σ 0 1) (hF : isF (σ 1) f = true) (o : Option Nat) (ho : ∀ b, o = some b → b < 4096) {m : Nat} (hm : m < 4096) {M : Mm} (hS : CSt M σ P) (hlt : ¬ ish 1 (M 4 3) ≤ (m : Int)) : ∃ M', f_S_cheapest_28 n k28 r f (bO o) (pO σ P o) m M = k28 r f (bO (nxO σ P r f m o)) (pO σ P (nxO σ P r f m o)) ((m + 1 : Nat) : Int) M' ∧ CSt M' σ P := by
  have bK := pkc_le 8 (σ 0 3).toNat P
  obtain ⟨hC, hK, hL, h25, hU⟩ := hS
  obtain ⟨M1, g1, g2, g3, g4, g5, g6⟩ := e_S_ruledAfter n hn hI hC hK hL h25 hU (Or.inr hr) hm hf hF
  have pm := prS_in hI P m (pkc 8 (σ 0 3).toNat P)
  have stay : btr σ P m o = false → ∃ M', f_S_cheapest_115 n k28 r f (bO o) (pO σ P o) m M = k28 r f (bO (nxO σ P r f m o)) (pO σ P (nxO σ P r f m o)) ((m + 1 : Nat) : Int) M' ∧ CSt M' σ P := by
    intro hb
    have e : nxO σ P r f m o = o := by unfold nxO; rw [ifn (fun q => by rw [hb] at q; exact absurd q.1 (by decide))]
    rw [e]
    unfold f_S_cheapest_115
    rw [w_succ (by omega)]
    exact ⟨M, rfl, hC, hK, hL, h25, hU⟩
  have go : btr σ P m o = true → ∃ M', f_S_cheapest_96 n k28 r f (bO o) (pO σ P o) m (prS σ P m (pkc 8 (σ 0 3).toNat P)) M = k28 r f (bO (nxO σ P r f m o)) (pO σ P (nxO σ P r f m o)) ((m + 1 : Nat) : Int) M' ∧ CSt M' σ P := by
    intro hb
    unfold f_S_cheapest_96 f_S_cheapest_115
    rw [g1, bnd_mk, w_succ (by omega)]
    refine ⟨M1, ?_, g2, g3, g4, g5, g6⟩
    by_cases z : lsm σ P r m f = r
    · have e : nxO σ P r f m o = some m := by unfold nxO; rw [ifp ⟨hb, z⟩]
      rw [e, ifn (show ¬ ((lstS σ (σ 0 0) (ownS σ (pkc 8 (σ 0 3).toNat P) P r m) (snS σ (pkc 8 (σ 0 3).toNat P) P m)).1 f ≠ r) from fun q => q z)]
      rfl
    · have e : nxO σ P r f m o = o := by unfold nxO; rw [ifn (fun q => z q.2)]
      rw [e, ifp (show (lstS σ (σ 0 0) (ownS σ (pkc 8 (σ 0 3).toNat P) P r m) (snS σ (pkc 8 (σ 0 3).toNat P) P m)).1 f ≠ r from z)]
  unfold f_S_cheapest_28
  rw [ifn hlt, e_S_sharesOf n hn hI hK hm, bnd_mk, e_R_priceOf n hn hI hC P m bK.2, bnd_mk]
  cases o with
  | none =>
    rw [ifp (show bO none < 0 by show (-1 : Int) < 0; decide)]
    unfold f_S_cheapest_74 f_S_cheapest_75
    rw [ifp (show prS σ P m (pkc 8 (σ 0 3).toNat P) < pO σ P none by show _ < (39961 : Int); omega)]
    exact go rfl
  | some b =>
    have hb := ho b rfl
    rw [show bO (some b) = (b : Int) from rfl, show pO σ P (some b) = prS σ P b (pkc 8 (σ 0 3).toNat P) from rfl] at stay go ⊢
    rw [ifn (show ¬ (b : Int) < 0 by omega), e_bitCount n M hm, bnd_mk, e_bitCount n M hb, bnd_mk]
    unfold f_S_cheapest_74 f_S_cheapest_75
    by_cases c1 : prS σ P m (pkc 8 (σ 0 3).toNat P) < prS σ P b (pkc 8 (σ 0 3).toNat P)
    · simp only [ifp c1, ite_self]
      exact go (decide_eq_true (by omega))
    · simp only [ifn c1]
      by_cases c2 : prS σ P m (pkc 8 (σ 0 3).toNat P) ≠ prS σ P b (pkc 8 (σ 0 3).toNat P)
      · simp only [ifp c2, ite_self]
        exact stay (decide_eq_false (by omega))
      · simp only [ifn c2]
        by_cases c3 : (pcn b : Int) ≤ (pcn m : Int)
        · rw [ifp c3, ifp True.intro]
          exact stay (decide_eq_false (by omega))
        · rw [ifn c3, ifn (show ¬ (1 : Int) = 0 by decide)]
          exact go (decide_eq_true (by omega))
theorem both_sets (n : Nat) (hn : 3000 ≤ n) (hI : Inv σ) {P : Nat → Bool} {r : Int} (hr : 0 ≤ r ∧ r < σ 0 1) {f : Nat} (hf : (f : Int) < σ 0 1) (hF : isF (σ 1) f = true) : ∀ (c m g : Nat) (o : Option Nat) (M N : Mm), m + c = 2 ^ pkc 8 (σ 0 3).toNat P → c < g → (∀ b, o = some b → b < 2 ^ pkc 8 (σ 0 3).toNat P) → CSt M σ P → AgR N σ → PKR N σ P → RB N σ P o → ∃ o' M' N', lp_S_cheapest_28 n g r f (bO o) (pO σ P o) m M = some ((match o' with | none => -5 | some b => lbits (σ 0 3).toNat P b (pkc 8 (σ 0 3).toNat P)), M') ∧ lp_m_findBought_61 n g r f (fO o) (cO o) m N = some (fO o', N') ∧ (∀ b, o' = some b → b < 2 ^ pkc 8 (σ 0 3).toNat P) ∧ CSt M' σ P ∧ AgR N' σ ∧ PKR N' σ P ∧ RB N' σ P o' := by
  have bK := pkc_le 8 (σ 0 3).toNat P
  have h6 : (2 : Nat) ^ pkc 8 (σ 0 3).toNat P ≤ 2 ^ 8 := Nat.pow_le_pow_right (by decide) bK.1
  have h5 : (((2 : Nat) ^ pkc 8 (σ 0 3).toNat P : Nat) : Int) = (2 : Int) ^ pkc 8 (σ 0 3).toNat P := by simp
  have e1 := p2_k (pkc 8 (σ 0 3).toNat P) (by omega)
  rw [← h5] at e1
  intro c
  induction c with
  | zero =>
    intro m g o M N hmc hg ho hS hA hK hB
    obtain ⟨g', rfl, _⟩ := f_pos hg
    refine ⟨o, M, N, ?_, ?_, ho, hS, hA, hK, hB⟩
    · show f_S_cheapest_28 n (lp_S_cheapest_28 n g') r f (bO o) (pO σ P o) m M = _
      unfold f_S_cheapest_28
      rw [ifp (by rw [hS.2.1.1, e1]; omega)]
      cases o with
      | none => rw [ifn (show ¬ 0 ≤ bO none by show ¬ (0 : Int) ≤ -1; decide)]
      | some b =>
        have := ho b rfl
        rw [ifp (show 0 ≤ bO (some b) by show (0 : Int) ≤ (b : Int); omega), show bO (some b) = (b : Int) from rfl, e_S_sharesOf n hn hI hS.2.1 (by omega), bnd_mk]
    · show f_m_findBought_61 n (lp_m_findBought_61 n g') r f _ _ m N = _
      unfold f_m_findBought_61
      rw [ifp (by rw [hK.1, e1]; omega)]
  | succ c ih =>
    intro m g o M N hmc hg ho hS hA hK hB
    obtain ⟨g', rfl, hg'⟩ := f_pos hg
    obtain ⟨M1, a1, a2⟩ := s_C n hn hI (lp_S_cheapest_28 n g') hr hf hF o (fun b hb => by have := ho b hb; omega) (show m < 4096 by omega) hS (by rw [hS.2.1.1, e1]; omega)
    obtain ⟨N1, b1, b2, b3, b4⟩ := s_R n hn hI (lp_m_findBought_61 n g') hr hf o (show m < 4096 by omega) hA hK hB
    have I := ih (m + 1) g' (nxO σ P r f m o) M1 N1 (by omega) hg' (fun b hb => by
      unfold nxO at hb
      split at hb
      · injection hb with hb; omega
      · exact ho b hb) a2 b2 b3 b4
    have e2 : lp_m_findBought_61 n (g' + 1) r f (fO o) (cO o) m N = lp_m_findBought_61 n g' r f (fO (nxO σ P r f m o)) (cO (nxO σ P r f m o)) ((m + 1 : Nat) : Int) N1 := by
      show f_m_findBought_61 n (lp_m_findBought_61 n g') r f _ _ m N = _
      unfold f_m_findBought_61
      rw [ifn (by rw [hK.1, e1]; omega)]
      exact b1
    have e3 : lp_S_cheapest_28 n (g' + 1) r f (bO o) (pO σ P o) m M = lp_S_cheapest_28 n g' r f (bO (nxO σ P r f m o)) (pO σ P (nxO σ P r f m o)) ((m + 1 : Nat) : Int) M1 := a1
    rw [e2, e3]
    exact I
end
