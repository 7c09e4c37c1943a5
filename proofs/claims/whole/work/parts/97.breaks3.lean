/-! breaks(..): both searches; the call. -/
section
variable {σ : Mm} {M N : Mm} {m : Nat}
def CBr (M σ : Mm) : Prop := RelC M σ ∧ (∀ s : Nat, (s : Int) < σ 0 3 → M 25 s = ow σ s (σ 0 0)) ∧ CUT M σ
def RBr (N σ : Mm) : Prop := AgR N σ ∧ (∀ s : Nat, (s : Int) < σ 0 3 → N 22 s = (Wh σ s (σ 0 0)).1) ∧ CUR N σ
theorem s_Cb (n : Nat) (hn : 3000 ≤ n) (hI : Inv σ) (k13 : Int → Int → Int → Int → Mm → Rr) (bc sz : Int) (hm : m < 2 ^ cutN σ) (hS : CBr M σ) : ∃ M', (((pcn m : Int) < sz ∧ ¬ ∃ y, alvX σ m y) → f_F_fewestToBreak_13 n k13 (cutN σ) bc sz m M = k13 (cutN σ) m (pcn m) ((m + 1 : Nat) : Int) M') ∧ (¬ ((pcn m : Int) < sz ∧ ¬ ∃ y, alvX σ m y) → f_F_fewestToBreak_13 n k13 (cutN σ) bc sz m M = k13 (cutN σ) bc sz ((m + 1 : Nat) : Int) M') ∧ CBr M' σ := by
  have bC := cutN_le σ
  have h3 : (2 : Nat) ^ cutN σ ≤ 2 ^ 12 := Nat.pow_le_pow_right (by decide) bC
  have h5 : (((2 : Nat) ^ cutN σ : Nat) : Int) = (2 : Int) ^ cutN σ := by simp
  have e1 := p2_k (cutN σ) (by omega)
  rw [← h5] at e1
  have hm4 : m < 4096 := by omega
  obtain ⟨hC, h25, hK⟩ := hS
  unfold f_F_fewestToBreak_13 f_F_fewestToBreak_49
  rw [e1, ifn (by omega), e_bitCount n M hm4, bnd_mk, w_succ (by omega)]
  by_cases c : sz ≤ (pcn m : Int)
  · rw [ifp c]
    exact ⟨M, fun q => by omega, fun _ => rfl, hC, h25, hK⟩
  · obtain ⟨w, M1, w1, w2, w3⟩ := e_F_isRingWithout n hn hI hC h25 hK hm4
    rw [ifn c, w1, bnd_mk]
    have h1 : CBr M1 σ := ⟨hC.fr w2 (by decide), fun s hs => by rw [w2 25 s rfl]; exact h25 s hs, fun k hk => by rw [w2 60 k rfl]; exact hK k hk⟩
    by_cases c2 : w ≠ 0
    · rw [ifp c2]
      exact ⟨M1, fun q => absurd (w3.mp c2) q.2, fun _ => rfl, h1⟩
    · rw [ifn c2, e_bitCount n M1 hm4, bnd_mk]
      exact ⟨M1, fun _ => rfl, fun q => absurd ⟨by omega, fun z => c2 (w3.mpr z)⟩ q, h1⟩
theorem s_Rb (n : Nat) (hn : 3000 ≤ n) (hI : Inv σ) (k86 : Int → Int → Int → Mm → Rr) {b : Nat} (hb : b < 2 ^ cutN σ) (hm : m < 2 ^ cutN σ) (hS : RBr N σ) : ∃ N', ((pcn m < pcn b ∧ ¬ ∃ y, alvX σ m y) → f_m_breaks_86 n k86 (cutN σ) b m N = k86 (cutN σ) m ((m + 1 : Nat) : Int) N') ∧ (¬ (pcn m < pcn b ∧ ¬ ∃ y, alvX σ m y) → f_m_breaks_86 n k86 (cutN σ) b m N = k86 (cutN σ) b ((m + 1 : Nat) : Int) N') ∧ RBr N' σ := by
  have bC := cutN_le σ
  have h3 : (2 : Nat) ^ cutN σ ≤ 2 ^ 12 := Nat.pow_le_pow_right (by decide) bC
  have h5 : (((2 : Nat) ^ cutN σ : Nat) : Int) = (2 : Int) ^ cutN σ := by simp
  have e1 := p2_k (cutN σ) (by omega)
  rw [← h5] at e1
  have hm4 : m < 4096 := by omega
  obtain ⟨hA, hW, hK⟩ := hS
  unfold f_m_breaks_86 f_m_breaks_202
  rw [e1, ifn (by omega), e_m_ones n hn N hm4, bnd_mk, e_m_ones n hn N (show b < 4096 by omega), bnd_mk, w_succ (by omega)]
  by_cases c : (pcn m : Int) < (pcn b : Int)
  · rw [ifp c]
    obtain ⟨N1, g1, g2, g3⟩ := l_m_br114 n k86 (cutN σ) b m 16 0 n N rfl (by omega) (fun o ho => absurd ho (Nat.not_lt_zero o))
    have g1' : lp_m_breaks_114 n k86 n (cutN σ) b m 0 N = _ := g1
    have no : ∀ o f, ¬ egS σ m 0 o f := fun o f ⟨j, j1, _⟩ => Nat.not_lt_zero j j1
    obtain ⟨w, N2, k1, k2, k3⟩ := l_m_br138 n hn hI hm4 k86 b (cutN σ) 0 n N1 (by omega) (by omega) (hA.fr g2 (by decide)) (fun s hs => by rw [g2 22 s rfl]; exact hW s hs) (fun k hk => by rw [g2 38 k rfl]; exact hK k hk) (fun o ho => by
      rw [g3 o ho]
      exact ⟨ir_0, fun f => by rw [bI_0]; exact ⟨fun q => (by cases q), fun q => absurd q (no o f)⟩⟩)
    have k1' : lp_m_breaks_138 n k86 n (cutN σ) b m 0 N1 = _ := k1
    have fr := g2.trans k2
    have h1 : RBr N2 σ := ⟨hA.fr fr (by decide), fun s hs => by rw [fr 22 s rfl]; exact hW s hs, fun k hk => by rw [fr 38 k rfl]; exact hK k hk⟩
    rw [g1', k1']
    by_cases c2 : w ≠ 0
    · rw [ifp c2]
      exact ⟨N2, fun q => absurd (k3.mp c2) q.2, fun _ => rfl, h1⟩
    · rw [ifn c2]
      exact ⟨N2, fun _ => rfl, fun q => absurd ⟨by omega, fun z => c2 (k3.mpr z)⟩ q, h1⟩
  · rw [ifn c]
    exact ⟨N, fun q => by omega, fun _ => rfl, hA, hW, hK⟩
theorem full_no (hI : Inv σ) : ¬ ∃ y, alvX σ (2 ^ cutN σ - 1) y := fun ⟨y, hy⟩ => by
  obtain ⟨z, ⟨j, j1, j2, _⟩, _⟩ := alv_st hy
  rw [Nat.testBit_two_pow_sub_one, decide_eq_true j1] at j2
  cases j2
theorem both_cuts (n : Nat) (hn : 5000 ≤ n) (hI : Inv σ) : ∀ (c m g1 g2 : Nat) (bc sz br : Int) (M N : Mm), m + c = 2 ^ cutN σ - 1 → c + 1 < g1 → c + 1 < g2 → brS σ bc sz br → CBr M σ → RBr N σ → ∃ b M' N', b < 2 ^ cutN σ ∧ lp_F_fewestToBreak_13 n g1 (cutN σ) bc sz m M = lp_F_fewestToBreak_61 n n (cutN σ) (b : Nat) 0 0 M' ∧ lp_m_breaks_86 n g2 (cutN σ) br m N = lp_m_breaks_213 n n (cutN σ) (b : Nat) 0 0 N' ∧ CBr M' σ ∧ RBr N' σ := by
  have bC := cutN_le σ
  have h0 := Nat.two_pow_pos (cutN σ)
  have h3 : (2 : Nat) ^ cutN σ ≤ 2 ^ 12 := Nat.pow_le_pow_right (by decide) bC
  have h5 : (((2 : Nat) ^ cutN σ : Nat) : Int) = (2 : Int) ^ cutN σ := by simp
  have e1 := p2_k (cutN σ) (by omega)
  rw [← h5] at e1
  intro c
  induction c with
  | zero =>
    intro m g1 g2 bc sz br M N hmc h1 h2 hb hM hN
    obtain ⟨g1', rfl, h1'⟩ := f_pos (show 0 < g1 by omega)
    obtain ⟨g2', rfl, h2'⟩ := f_pos (show 0 < g2 by omega)
    obtain ⟨g1'', rfl, _⟩ := f_pos (show 0 < g1' by omega)
    obtain ⟨g2'', rfl, _⟩ := f_pos (show 0 < g2' by omega)
    have em : m = 2 ^ cutN σ - 1 := by omega
    have endC : ∀ (b : Nat) (sz : Int) (M : Mm), lp_F_fewestToBreak_13 n (g1'' + 1) (cutN σ) b sz ((m + 1 : Nat) : Int) M = lp_F_fewestToBreak_61 n n (cutN σ) b 0 0 M := fun b sz M => by
      show f_F_fewestToBreak_13 n (lp_F_fewestToBreak_13 n g1'') _ _ _ _ M = _
      unfold f_F_fewestToBreak_13
      rw [e1, ifp (by omega)]
    have endR : ∀ (b : Nat) (N : Mm), lp_m_breaks_86 n (g2'' + 1) (cutN σ) b ((m + 1 : Nat) : Int) N = lp_m_breaks_213 n n (cutN σ) b 0 0 N := fun b N => by
      show f_m_breaks_86 n (lp_m_breaks_86 n g2'') _ _ _ N = _
      unfold f_m_breaks_86
      rw [e1, ifp (by omega)]
    obtain ⟨M1, p1, p2, p3⟩ := s_Cb n (by omega) hI (lp_F_fewestToBreak_13 n (g1'' + 1)) bc sz (m := m) (by omega) hM
    have hno : ¬ ∃ y, alvX σ m y := by rw [em]; exact full_no hI
    have hpm : pcn m ≤ 12 := cn_le _ 12
    rcases hb with ⟨q1, q2, q3⟩ | ⟨b, b1, b2, b3, b4⟩
    · obtain ⟨N1, r1, r2, r3⟩ := s_Rb n (by omega) hI (lp_m_breaks_86 n (g2'' + 1)) (b := m) (m := m) (by omega) (by omega) hN
      refine ⟨m, M1, N1, by omega, ?_, ?_, p3, r3⟩
      · exact (p1 ⟨by omega, hno⟩).trans (endC m _ M1)
      · rw [q3, ← em]
        exact (r2 (fun z => by omega)).trans (endR m N1)
    · obtain ⟨N1, r1, r2, r3⟩ := s_Rb n (by omega) hI (lp_m_breaks_86 n (g2'' + 1)) (b := b) (m := m) b1 (by omega) hN
      rw [b2, b4] at p1 p2
      rw [b2, b3, b4]
      by_cases z : pcn m < pcn b ∧ ¬ ∃ y, alvX σ m y
      · exact ⟨m, M1, N1, by omega, (p1 ⟨by omega, z.2⟩).trans (endC m _ M1), (r1 z).trans (endR m N1), p3, r3⟩
      · exact ⟨b, M1, N1, b1, (p2 (fun q => z ⟨by omega, q.2⟩)).trans (endC b _ M1), (r2 z).trans (endR b N1), p3, r3⟩
  | succ c ih =>
    intro m g1 g2 bc sz br M N hmc h1 h2 hb hM hN
    obtain ⟨g1', rfl, h1'⟩ := f_pos (show 0 < g1 by omega)
    obtain ⟨g2', rfl, h2'⟩ := f_pos (show 0 < g2 by omega)
    obtain ⟨M1, p1, p2, p3⟩ := s_Cb n (by omega) hI (lp_F_fewestToBreak_13 n g1') bc sz (m := m) (by omega) hM
    have hpm : pcn m ≤ 12 := cn_le _ 12
    rcases hb with ⟨q1, q2, q3⟩ | ⟨b, b1, b2, b3, b4⟩
    · obtain ⟨N1, r1, r2, r3⟩ := s_Rb n (by omega) hI (lp_m_breaks_86 n g2') (b := 2 ^ cutN σ - 1) (m := m) (by omega) (by omega) hN
      have hl := pcn_less (k := cutN σ) (m := m) bC (by omega)
      rw [← q3] at r1 r2
      by_cases z : ¬ ∃ y, alvX σ m y
      · obtain ⟨b', M', N', w0, w1, w2, w3, w4⟩ := ih (m + 1) g1' g2' m (pcn m) m M1 N1 (by omega) (by omega) (by omega) (Or.inr ⟨m, by omega, rfl, rfl, rfl⟩) p3 r3
        exact ⟨b', M', N', w0, (p1 ⟨by omega, z⟩).trans w1, (r1 ⟨hl, z⟩).trans w2, w3, w4⟩
      · obtain ⟨b', M', N', w0, w1, w2, w3, w4⟩ := ih (m + 1) g1' g2' bc sz br M1 N1 (by omega) (by omega) (by omega) (Or.inl ⟨q1, q2, q3⟩) p3 r3
        exact ⟨b', M', N', w0, (p2 (fun q => z q.2)).trans w1, (r2 (fun q => z q.2)).trans w2, w3, w4⟩
    · obtain ⟨N1, r1, r2, r3⟩ := s_Rb n (by omega) hI (lp_m_breaks_86 n g2') (b := b) (m := m) b1 (by omega) hN
      rw [← b3] at r1 r2
      by_cases z : pcn m < pcn b ∧ ¬ ∃ y, alvX σ m y
      · obtain ⟨b', M', N', w0, w1, w2, w3, w4⟩ := ih (m + 1) g1' g2' m (pcn m) m M1 N1 (by omega) (by omega) (by omega) (Or.inr ⟨m, by omega, rfl, rfl, rfl⟩) p3 r3
        exact ⟨b', M', N', w0, (p1 ⟨by omega, z.2⟩).trans w1, (r1 z).trans w2, w3, w4⟩
      · obtain ⟨b', M', N', w0, w1, w2, w3, w4⟩ := ih (m + 1) g1' g2' bc sz br M1 N1 (by omega) (by omega) (by omega) (Or.inr ⟨b, b1, b2, b3, b4⟩) p3 r3
        exact ⟨b', M', N', w0, (p2 (fun q => z ⟨by omega, q.2⟩)).trans w1, (r2 z).trans w2, w3, w4⟩
theorem l_F_ftb61 (n : Nat) (hI : Inv σ) (hK : CUT M σ) {b : Nat} (hb : b < 4096) : ∀ (k j g : Nat), j + k = cutN σ → k < g → lp_F_fewestToBreak_61 n g (cutN σ) b (lbits (σ 0 3).toNat (cutP σ) b j) j M = some (lbits (σ 0 3).toNat (cutP σ) b (cutN σ), M) := by
  have bC := cutN_le σ
  intro k
  induction k with
  | zero =>
    intro j g hj hg
    obtain ⟨g', rfl, _⟩ := f_pos hg
    have e : j = cutN σ := by omega
    subst e
    show f_F_fewestToBreak_61 n (lp_F_fewestToBreak_61 n g') _ _ _ _ M = _
    unfold f_F_fewestToBreak_61
    rw [ifp (by omega)]
  | succ k ih =>
    intro j g hj hg
    obtain ⟨g', rfl, hg'⟩ := f_pos hg
    have I := ih (j + 1) g' (by omega) hg'
    show f_F_fewestToBreak_61 n (lp_F_fewestToBreak_61 n g') _ _ _ _ M = _
    unfold f_F_fewestToBreak_61 f_F_fewestToBreak_92
    rw [ifn (by omega), bit_I (by omega), bI_testBit hb (by omega), w_succ (by omega), ckp (by omega), Int.toNat_natCast, hK j (by omega)]
    have eb : lbits (σ 0 3).toNat (cutP σ) b (j + 1) = lor (lbits (σ 0 3).toNat (cutP σ) b j) (if b.testBit j = true then lsh 1 (cutK σ j) else 0) := rfl
    rw [eb] at I
    cases c : b.testBit j with
    | true =>
      rw [c, ifp rfl] at I
      rw [ifp rfl, ifn (by decide)]
      exact I
    | false =>
      rw [c, ifn (by decide)] at I
      rw [ifp (show (if false = true then (1 : Int) else 0) ≠ 1 by decide)]
      exact I
theorem l_m_br213 (n : Nat) (hI : Inv σ) (hK : CUR N σ) {b : Nat} (hb : b < 4096) : ∀ (k j g : Nat), j + k = cutN σ → k < g → lp_m_breaks_213 n g (cutN σ) b (lbits (σ 0 3).toNat (cutP σ) b j) j N = some (lbits (σ 0 3).toNat (cutP σ) b (cutN σ), N) := by
  have bC := cutN_le σ
  intro k
  induction k with
  | zero =>
    intro j g hj hg
    obtain ⟨g', rfl, _⟩ := f_pos hg
    have e : j = cutN σ := by omega
    subst e
    show f_m_breaks_213 n (lp_m_breaks_213 n g') _ _ _ _ N = _
    unfold f_m_breaks_213
    rw [ifp (by omega)]
  | succ k ih =>
    intro j g hj hg
    obtain ⟨g', rfl, hg'⟩ := f_pos hg
    have I := ih (j + 1) g' (by omega) hg'
    show f_m_breaks_213 n (lp_m_breaks_213 n g') _ _ _ _ N = _
    unfold f_m_breaks_213 f_m_breaks_243
    rw [ifn (by omega), bit_I (by omega), bI_testBit hb (by omega), w_succ (by omega), ckp (by omega), Int.toNat_natCast, hK j (by omega)]
    have eb : lbits (σ 0 3).toNat (cutP σ) b (j + 1) = lor (lbits (σ 0 3).toNat (cutP σ) b j) (if b.testBit j = true then lsh 1 (cutK σ j) else 0) := rfl
    rw [eb] at I
    cases c : b.testBit j with
    | true =>
      rw [c, ifp rfl] at I
      rw [ifp rfl, ifn (by decide)]
      exact I
    | false =>
      rw [c, ifn (by decide)] at I
      rw [ifp (show (if false = true then (1 : Int) else 0) ≠ 1 by decide)]
      exact I
theorem q_breaks (n : Nat) (hn : 5000 ≤ n) (hJ : J M N) : Sim (f_W_breaks n M) (f_m_breaks n N) := by
  obtain ⟨σ, hI, hA, hC⟩ := hJ
  have b1 := hI.2.1.1
  have bC := cutN_le σ
  have h0 := Nat.two_pow_pos (cutN σ)
  have h3 : (2 : Nat) ^ cutN σ ≤ 2 ^ 12 := Nat.pow_le_pow_right (by decide) bC
  obtain ⟨M1, m1, m2, m3, m4⟩ := e_F_listCuts n (by omega) hI hC
  obtain ⟨N1, g1, g2, g3⟩ := e_m_layOut n (by omega) hI hA (σ 0 0)
  obtain ⟨N2, k1, k2, k3⟩ := l_m_br12 n hI (σ 0 3).toNat 0 n N1 (by omega) (by omega) (hA.fr g2 (by decide)) (fun s hs => (g3 s hs).1) (Nat.zero_le _) (fun k hk => absurd hk (Nat.not_lt_zero k))
  have k1' : lp_m_breaks_12 n n 0 0 N1 = _ := k1
  have hM : CBr M1 σ := ⟨hC.fr m2 (by decide), m3, m4⟩
  have hN : RBr N2 σ := ⟨(hA.fr g2 (by decide)).fr k2 (by decide), fun s hs => by rw [k2 22 s rfl]; exact (g3 s hs).1, k3⟩
  obtain ⟨b, M3, N3, w0, w1, w2, w3, w4⟩ := both_cuts n hn hI (2 ^ cutN σ - 1) 0 n n 0 13 ((2 ^ cutN σ - 1 : Nat) : Int) M1 N2 (by omega) (by omega) (by omega) (Or.inl ⟨rfl, rfl, rfl⟩) hM hN
  have w1' : lp_F_fewestToBreak_13 n n (cutN σ) 0 13 0 M1 = _ := w1
  have w2' : lp_m_breaks_86 n n (cutN σ) ((2 ^ cutN σ - 1 : Nat) : Int) 0 N2 = _ := w2
  have f1 := l_F_ftb61 n hI w3.2.2 (b := b) (by omega) (cutN σ) 0 n (by omega) (by omega)
  have f2 := l_m_br213 n hI w4.2.2 (b := b) (by omega) (cutN σ) 0 n (by omega) (by omega)
  have f1' : lp_F_fewestToBreak_61 n n (cutN σ) b 0 0 M3 = _ := f1
  have f2' : lp_m_breaks_213 n n (cutN σ) b 0 0 N3 = _ := f2
  unfold f_W_breaks f_m_breaks f_F_fewestToBreak
  rw [m1, bnd_mk, w1', f1', bnd_mk, hA 0 0 rfl, g1, bnd_mk, k1']
  unfold f_m_breaks_78
  rw [w_all (by omega), w2', f2']
  exact Sim.same ⟨σ, hI, w4.1, w3.1⟩ _
end
