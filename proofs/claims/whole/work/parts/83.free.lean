/-! free(..). -/
section
variable {σ : Mm} {M N : Mm}
def PGy (σ : Mm) (rb : Nat → Int) (r : Int) : Nat → Bool := fun s => decide (0 ≤ ow σ s (σ 0 0)) && grp σ rb r (ow σ s (σ 0 0)).toNat
def lsf (σ : Mm) (P : Nat → Bool) (m f : Nat) : Int := (lstS σ (σ 0 0) (ownS σ (pkc 8 (σ 0 3).toNat P) P (-5) m) (snS σ (pkc 8 (σ 0 3).toNat P) P m)).1 f
def fbt (m : Nat) : Option Nat → Bool
  | none => true
  | some b => decide (pcn m < pcn b)
def nxF (σ : Mm) (P : Nat → Bool) (f m : Nat) (o : Option Nat) : Option Nat := if fbt m o = true ∧ ¬ 0 ≤ lsf σ P m f then some m else o
def nF : Option Nat → Int | none => 9 | some b => (pcn b : Int)
theorem l_m_fr143 (n : Nat) (hn : 3000 ≤ n) (hI : Inv σ) (k98 : Int → Int → Int → Mm → Rr) {P : Nat → Bool} {f : Nat} (hf : (f : Int) < σ 0 1) (x3 : Int) {m : Nat} (hm : m < 4096) : ∀ (c k g : Nat) (N : Mm), k + c = pkc 8 (σ 0 3).toNat P → c < g → AgR N σ → PKR N σ P → (∀ s : Nat, (s : Int) < σ 0 3 → if inS k P m s = true then N 22 s = -1 else (N 22 s = (Wh σ s (σ 0 0)).1 ∧ N 23 s = (Wh σ s (σ 0 0)).2)) → ∃ N', lp_m_free_143 n k98 g f x3 m k N = (if 0 ≤ lsf σ P m f then k98 f x3 ((m + 1 : Nat) : Int) N' else k98 f m ((m + 1 : Nat) : Int) N') ∧ AgR N' σ ∧ PKR N' σ P := by
  have b := hI.1.2.1
  have bt := hI.1.1
  have b1 := hI.2.1.1
  have bK := pkc_le 8 (σ 0 3).toNat P
  intro c
  induction c with
  | zero =>
    intro k g N hk hg hA hK hP
    obtain ⟨g', rfl, _⟩ := f_pos hg
    have e : k = pkc 8 (σ 0 3).toNat P := by omega
    subst e
    show ∃ N', f_m_free_143 n k98 (lp_m_free_143 n k98 g') f x3 m _ N = _ ∧ _
    have hR : RWo N σ (ownS σ (pkc 8 (σ 0 3).toNat P) P (-5) m) (snS σ (pkc 8 (σ 0 3).toNat P) P m) := RWo_S hI P _ m (fun s hs => by
      have := hP s hs
      by_cases z : inS (pkc 8 (σ 0 3).toNat P) P m s = true
      · rw [ifp z] at this ⊢; exact Or.inr ⟨by omega, by decide⟩
      · rw [ifn z] at this ⊢; exact this)
    have hO := okO_S hI (pkc 8 (σ 0 3).toNat P) P (Or.inl (show (-5 : Int) < 0 by decide)) m
    obtain ⟨N1, g1, g2, g3⟩ := e_m_findVotes n hn hI hA bt hO hR
    have hA1 := hA.fr g2 (by decide)
    obtain ⟨N2, k1, k2, k3⟩ := e_m_findLeast n hn hI hA1 g3
    have hA2 := hA1.fr k2 (by decide)
    have hK2 := (hK.fr g2 rfl rfl).fr k2 rfl rfl
    have hok := okS_itr (σ := σ) hI (σ 0 0) (ownS σ (pkc 8 (σ 0 3).toNat P) P (-5) m) (snS σ (pkc 8 (σ 0 3).toNat P) P m) 8
    have e29 : (0 ≤ N2 29 f) ↔ (0 ≤ lsf σ P m f) := by
      rw [k3.1 f (by omega)]
      have h2 := hok.2 f
      show 0 ≤ (if lsf σ P m f < 0 then (-1 : Int) else lsf σ P m f) ↔ 0 ≤ lsf σ P m f
      by_cases q : lsf σ P m f < 0
      · rw [ifp q]; omega
      · rw [ifn q]
    unfold f_m_free_143 f_m_free_206
    rw [ifp (by rw [hK.1]; omega), hA 0 0 rfl, g1, bnd_mk, k1, bnd_mk, ckp (by omega), Int.toNat_natCast, w_succ (by omega)]
    by_cases z : 0 ≤ lsf σ P m f
    · rw [ifp (e29.mpr z)]
      exact ⟨N2, by rw [ifp z], hA2, hK2⟩
    · rw [ifn (fun q => z (e29.mp q))]
      exact ⟨N2, by rw [ifn z], hA2, hK2⟩
  | succ c ih =>
    intro k g N hk hg hA hK hP
    obtain ⟨g', rfl, hg'⟩ := f_pos hg
    show ∃ N', f_m_free_143 n k98 (lp_m_free_143 n k98 g') f x3 m k N = _ ∧ _
    have hpk := pkN_in (P := P) (sh := (σ 0 3).toNat) (show k < cn (σ 0 3).toNat P by omega)
    have hkr := hK.2 k (by omega)
    generalize pkN (σ 0 3).toNat P k = q at hpk hkr
    have hin : ∀ s, s < (σ 0 3).toNat → s ≠ q → inS (k + 1) P m s = inS k P m s := by
      intro s hs hsq
      unfold inS
      cases h1 : P s with
      | false => rfl
      | true =>
        have : cn s P ≠ k := fun z => hsq (cn_inj h1 hpk.2.1 (by rw [z, hpk.2.2]))
        by_cases z : cn s P < k
        · rw [decide_eq_true z, decide_eq_true (show cn s P < k + 1 by omega)]
        · rw [decide_eq_false z, decide_eq_false (show ¬ cn s P < k + 1 by omega)]
    have hq1 : inS (k + 1) P m q = m.testBit k := by
      unfold inS
      rw [hpk.2.1, hpk.2.2, decide_eq_true (show k < k + 1 by omega)]; rfl
    have hq0 : inS k P m q = false := by
      unfold inS
      rw [hpk.2.1, hpk.2.2, decide_eq_false (show ¬ k < k by omega)]; rfl
    unfold f_m_free_143 f_m_free_176
    rw [ifn (by rw [hK.1]; omega), bit_I (by omega), bI_testBit hm (by omega)]
    simp only [ckp (show (0 : Int) ≤ (k : Int) ∧ (k : Int) < 12 by omega), Int.toNat_natCast, hkr, ckp (show (0 : Int) ≤ (q : Int) ∧ (q : Int) < 40 by omega), w_succ (show k < 2000000000 by omega)]
    by_cases z : m.testBit k = true
    · rw [ifp z, ifn (show ¬ (1 : Int) ≠ 1 by decide)]
      have fr : Fr cdR [22] N (mset N 22 q (-1)) := Fr.rf.set rfl
      exact ih (k + 1) g' (mset N 22 q (-1)) (by omega) hg' (hA.fr fr (by decide)) (hK.fr fr rfl rfl) (fun s hs => by
        by_cases e : s = q
        · rw [e, hq1, ifp z, mg_s]
        · rw [hin s (by omega) e, mg_j _ _ _ e, mg_k _ _ _ (by decide)]
          exact hP s hs)
    · rw [ifn z, ifp (show (0 : Int) ≠ 1 by decide)]
      exact ih (k + 1) g' N (by omega) hg' hA hK (fun s hs => by
        by_cases e : s = q
        · have := hP s hs
          rw [e, hq0] at this
          rw [e, hq1, ifn z]
          exact this
        · rw [hin s (by omega) e]; exact hP s hs)
theorem s_Rf (n : Nat) (hn : 3000 ≤ n) (hI : Inv σ) (k98 : Int → Int → Int → Mm → Rr) {P : Nat → Bool} {f : Nat} (hf : (f : Int) < σ 0 1) (o : Option Nat) (ho : ∀ b, o = some b → b < 4096) {m : Nat} (hm : m < 4096) {N : Mm} (hA : AgR N σ) (hK : PKR N σ P) (hlt : ¬ ish 1 (N 0 60) ≤ (m : Int)) : ∃ N', f_m_free_98 n k98 f (bO o) m N = k98 f (bO (nxF σ P f m o)) ((m + 1 : Nat) : Int) N' ∧ AgR N' σ ∧ PKR N' σ P := by
  have go : fbt m o = true → ∃ N', f_m_free_132 n k98 f (bO o) m N = k98 f (bO (nxF σ P f m o)) ((m + 1 : Nat) : Int) N' ∧ AgR N' σ ∧ PKR N' σ P := by
    intro hb
    obtain ⟨N1, g1, g2, g3⟩ := e_m_layOut n hn hI hA (σ 0 0)
    obtain ⟨N2, k1, k2, k3⟩ := l_m_fr143 n hn hI k98 hf (bO o) hm (pkc 8 (σ 0 3).toNat P) 0 n N1 (by omega) (by have := pkc_le 8 (σ 0 3).toNat P; omega) (hA.fr g2 (by decide)) (hK.fr g2 rfl rfl) (fun s hs => by
      have : inS 0 P m s = false := by unfold inS; rw [decide_eq_false (Nat.not_lt_zero _)]; simp
      rw [ifn (by rw [this]; decide)]
      exact g3 s hs)
    unfold f_m_free_132
    rw [hA 0 0 rfl, g1, bnd_mk]
    rw [show ((0 : Nat) : Int) = 0 from rfl] at k1
    rw [k1]
    refine ⟨N2, ?_, k2, k3⟩
    by_cases z : 0 ≤ lsf σ P m f
    · have e : nxF σ P f m o = o := by unfold nxF; rw [ifn (fun q => q.2 z)]
      rw [e, ifp z]
    · have e : nxF σ P f m o = some m := by unfold nxF; rw [ifp ⟨hb, z⟩]
      rw [e, ifn z]
      rfl
  unfold f_m_free_98
  rw [ifn hlt]
  cases o with
  | none =>
    rw [ifp (show bO none < 0 by show (-1 : Int) < 0; decide)]
    exact go rfl
  | some b =>
    have hb := ho b rfl
    rw [show bO (some b) = (b : Int) from rfl] at go ⊢
    rw [ifn (show ¬ (b : Int) < 0 by omega), e_m_ones n hn N hm, bnd_mk, e_m_ones n hn N hb, bnd_mk]
    by_cases c : (pcn m : Int) < (pcn b : Int)
    · rw [ifp c]
      exact go (decide_eq_true (by omega))
    · have e : nxF σ P f m (some b) = some b := by
        unfold nxF
        rw [ifn (fun q => by have := of_decide_eq_true q.1; omega)]
      rw [ifn c, e]
      unfold f_m_free_206
      rw [w_succ (by omega)]
      exact ⟨N, rfl, hA, hK⟩
theorem pcn_80 : ∀ a : Nat, a < 256 → pcn a ≤ 8 := by decide +kernel
theorem s_Cf (n : Nat) (hn : 3000 ≤ n) (hI : Inv σ) (k53 : Int → Int → Int → Int → Mm → Rr) {P : Nat → Bool} {f : Nat} (hf : (f : Int) < σ 0 1) (hF : isF (σ 1) f = true) (o : Option Nat) {m : Nat} (hm : m < 256) {M : Mm} (hS : CSt M σ P) (hlt : ¬ ish 1 (M 4 3) ≤ (m : Int)) : ∃ M', f_S_fewestToFree_53 n k53 f (bO o) (nF o) m M = k53 f (bO (nxF σ P f m o)) (nF (nxF σ P f m o)) ((m + 1 : Nat) : Int) M' ∧ CSt M' σ P := by
  obtain ⟨hC, hK, hL, h25, hU⟩ := hS
  have hm4 : m < 4096 := by omega
  obtain ⟨M1, g1, g2, g3, g4, g5, g6⟩ := e_S_ruledAfter n hn hI hC hK hL h25 hU (hx := -5) (Or.inl (by decide)) hm4 hf hF
  have p8 := pcn_80 m hm
  have hb : (nF o ≤ (pcn m : Int)) ↔ ¬ fbt m o = true := by
    cases o with
    | none => show (9 : Int) ≤ _ ↔ ¬ true = true; simp; omega
    | some b => show (pcn b : Int) ≤ _ ↔ ¬ decide (pcn m < pcn b) = true; simp
  unfold f_S_fewestToFree_53 f_S_fewestToFree_96
  rw [ifn hlt, e_bitCount n M hm4, bnd_mk, w_succ (by omega)]
  by_cases c : nF o ≤ (pcn m : Int)
  · have e : nxF σ P f m o = o := by unfold nxF; rw [ifn (fun q => hb.mp c q.1)]
    rw [ifp c, e]
    exact ⟨M, rfl, hC, hK, hL, h25, hU⟩
  · have c' : fbt m o = true := Classical.byContradiction fun q => c (hb.mpr q)
    rw [ifn c, g1, bnd_mk]
    by_cases z : 0 ≤ lsf σ P m f
    · have e : nxF σ P f m o = o := by unfold nxF; rw [ifn (fun q => q.2 z)]
      rw [e, ifp (show 0 ≤ (lstS σ (σ 0 0) (ownS σ (pkc 8 (σ 0 3).toNat P) P (-5) m) (snS σ (pkc 8 (σ 0 3).toNat P) P m)).1 f from z)]
      exact ⟨M1, rfl, g2, g3, g4, g5, g6⟩
    · have e : nxF σ P f m o = some m := by unfold nxF; rw [ifp ⟨c', z⟩]
      rw [e, ifn (show ¬ 0 ≤ (lstS σ (σ 0 0) (ownS σ (pkc 8 (σ 0 3).toNat P) P (-5) m) (snS σ (pkc 8 (σ 0 3).toNat P) P m)).1 f from z), e_bitCount n M1 hm4, bnd_mk]
      exact ⟨M1, rfl, g2, g3, g4, g5, g6⟩
theorem both_fsets (n : Nat) (hn : 3000 ≤ n) (hI : Inv σ) {P : Nat → Bool} {f : Nat} (hf : (f : Int) < σ 0 1) (hF : isF (σ 1) f = true) : ∀ (c m g : Nat) (o : Option Nat) (M N : Mm), m + c = 2 ^ pkc 8 (σ 0 3).toNat P → c < g → (∀ b, o = some b → b < 2 ^ pkc 8 (σ 0 3).toNat P) → CSt M σ P → AgR N σ → PKR N σ P → ∃ x M' N', lp_S_fewestToFree_53 n g f (bO o) (nF o) m M = some (x, M') ∧ lp_m_free_98 n g f (bO o) m N = some (x, N') ∧ RelC M' σ ∧ AgR N' σ := by
  have bK := pkc_le 8 (σ 0 3).toNat P
  have h6 : (2 : Nat) ^ pkc 8 (σ 0 3).toNat P ≤ 2 ^ 8 := Nat.pow_le_pow_right (by decide) bK.1
  have h5 : (((2 : Nat) ^ pkc 8 (σ 0 3).toNat P : Nat) : Int) = (2 : Int) ^ pkc 8 (σ 0 3).toNat P := by simp
  have e1 := p2_k (pkc 8 (σ 0 3).toNat P) (by omega)
  rw [← h5] at e1
  intro c
  induction c with
  | zero =>
    intro m g o M N hmc hg ho hS hA hK
    obtain ⟨g', rfl, _⟩ := f_pos hg
    have e2 : lp_S_fewestToFree_53 n (g' + 1) f (bO o) (nF o) m M = f_S_fewestToFree_53 n (lp_S_fewestToFree_53 n g') f (bO o) (nF o) m M := rfl
    have e3 : lp_m_free_98 n (g' + 1) f (bO o) m N = f_m_free_98 n (lp_m_free_98 n g') f (bO o) m N := rfl
    rw [e2, e3]
    unfold f_S_fewestToFree_53 f_m_free_98
    rw [ifp (show ish 1 (M 4 3) ≤ (m : Int) by rw [hS.2.1.1, e1]; omega), ifp (show ish 1 (N 0 60) ≤ (m : Int) by rw [hK.1, e1]; omega)]
    cases o with
    | none =>
      rw [ifn (show ¬ 0 ≤ bO none by show ¬ (0 : Int) ≤ -1; decide), ifn (show ¬ 0 ≤ bO none by show ¬ (0 : Int) ≤ -1; decide)]
      exact ⟨_, M, N, rfl, rfl, hS.1, hA⟩
    | some b =>
      have := ho b rfl
      rw [ifp (show 0 ≤ bO (some b) by show (0 : Int) ≤ (b : Int); omega), ifp (show 0 ≤ bO (some b) by show (0 : Int) ≤ (b : Int); omega), show bO (some b) = (b : Int) from rfl, e_S_sharesOf n hn hI hS.2.1 (by omega), bnd_mk, e_m_bitsOf n hn hI hK (by omega), bnd_mk]
      exact ⟨_, M, N, rfl, rfl, hS.1, hA⟩
  | succ c ih =>
    intro m g o M N hmc hg ho hS hA hK
    obtain ⟨g', rfl, hg'⟩ := f_pos hg
    obtain ⟨M1, a1, a2⟩ := s_Cf n hn hI (lp_S_fewestToFree_53 n g') hf hF o (show m < 256 by omega) hS (by rw [hS.2.1.1, e1]; omega)
    obtain ⟨N1, b1, b2, b3⟩ := s_Rf n hn hI (lp_m_free_98 n g') hf o (fun b hb => by have := ho b hb; omega) (show m < 4096 by omega) hA hK (by rw [hK.1, e1]; omega)
    have I := ih (m + 1) g' (nxF σ P f m o) M1 N1 (by omega) hg' (fun b hb => by
      unfold nxF at hb
      split at hb
      · injection hb with hb; omega
      · exact ho b hb) a2 b2 b3
    have e2 : lp_S_fewestToFree_53 n (g' + 1) f (bO o) (nF o) m M = _ := a1
    have e3 : lp_m_free_98 n (g' + 1) f (bO o) m N = _ := b1
    rw [e2, e3]
    exact I
end
