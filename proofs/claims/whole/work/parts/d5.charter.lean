/-! charter(..): the call. -/
section
variable {σ : Mm} {M N : Mm} {n : Nat}
theorem ClR_k {M' : Mm} {ch k i : Nat} {c : Cl} (hk : KTx M M' ch) (h : k < ch) (hi : i < 6) (hc : ClR (M 34) (M 35) (M 36) (M 37) (6 * k + i) c) : ClR (M' 34) (M' 35) (M' 36) (M' 37) (6 * k + i) c := by
  obtain ⟨c1, c2, c3, c4⟩ := hc
  have e := hk.1 (6 * k + i) (by omega)
  refine ⟨e.1.trans c1, c2, fun z => ⟨e.2.1.trans (c3 z).1, fun y => e.2.2.trans ((c3 z).2 y)⟩, fun z => ?_⟩
  obtain ⟨d1, d2, d3, d4⟩ := c4 z
  rw [e.2.1, e.2.2]
  refine ⟨d1, d2, d3, fun u hu => ?_⟩
  rw [hk.2.1 _ (by omega)]
  exact d4 u hu
/-- the fed text put behind -/
def cpy (σ : Mm) (ch j i : Nat) : Int := if 100 * ch ≤ i ∧ i < 100 * ch + j then σ 14 (2000 + (i - 100 * ch)) else σ 14 i
theorem cpy_s {A : Mm} {ch j : Nat} : mset (mrow A 14 (cpy σ ch j)) 14 (100 * ch + j) (σ 14 (2000 + j)) = mrow A 14 (cpy σ ch (j + 1)) := by
  funext k i
  rw [mg]
  by_cases q : k = 14
  · rw [ifp q, q]
    show (if i = 100 * ch + j then σ 14 (2000 + j) else (if 14 = 14 then cpy σ ch j i else A 14 i)) = (if 14 = 14 then cpy σ ch (j + 1) i else A 14 i)
    rw [ifp rfl, ifp rfl]
    unfold cpy
    by_cases w : i = 100 * ch + j
    · rw [ifp w, ifp (by omega), show i - 100 * ch = j by omega]
    · rw [ifn w]
      by_cases y : 100 * ch ≤ i ∧ i < 100 * ch + j
      · rw [ifp y, ifp (by omega)]
      · rw [ifn y, ifn (by omega)]
  · rw [ifn q]
    show (if k = 14 then cpy σ ch j else A k) i = (if k = 14 then cpy σ ch (j + 1) else A k) i
    rw [ifn q, ifn q]
theorem l_m_charter84 (hn : 3000 ≤ n) {A : Mm} {ch m : Nat} (hch : ch < 20) (hm : m ≤ 100) (fi d : Int) (hA18 : A 0 18 = (ch : Int)) (hA15 : A 15 20 = (m : Int)) : ∀ (r j g : Nat) (N : Mm), j + r = m → r < g → AgR N (mrow A 14 (cpy σ ch j)) → ∃ N', lp_m_charter_84 n g fi d j N = some ((ch : Int), N') ∧ AgR N' (mset (mset (mset (mrow A 14 (cpy σ ch m)) 12 ch fi) 13 ch d) 0 18 ((ch + 1 : Nat) : Int)) := by
  intro r
  induction r with
  | zero =>
    intro j g N hj hg hA
    obtain ⟨g', rfl, _⟩ := f_pos hg
    have e : j = m := by omega
    subst e
    have a15 : N 15 20 = (j : Int) := (hA 15 20 rfl).trans hA15
    have a18 : N 0 18 = (ch : Int) := (hA 0 18 rfl).trans hA18
    show ∃ N', f_m_charter_84 n (lp_m_charter_84 n g') fi d j N = _ ∧ _
    unfold f_m_charter_84
    rw [show (20 : Int).toNat = 20 from rfl, a15, ifp (Int.le_refl _), a18, ckp (by omega), Int.toNat_natCast, mg_k _ _ _ (show (0 : Nat) ≠ 12 by decide), a18, ckp (by omega), Int.toNat_natCast, mg_k _ _ _ (show (0 : Nat) ≠ 13 by decide), mg_k _ _ _ (show (0 : Nat) ≠ 12 by decide), a18, w_succ (by omega), mg_s, w32_s (by omega) (by omega)]
    refine ⟨_, ?_, ((hA.set 12 ch fi).set 13 ch d).set 0 18 ((ch + 1 : Nat) : Int)⟩
    rw [show ((ch + 1 : Nat) : Int) - 1 = (ch : Int) by omega]
  | succ r ih =>
    intro j g N hj hg hA
    obtain ⟨g', rfl, hg'⟩ := f_pos hg
    have a15 : N 15 20 = (m : Int) := (hA 15 20 rfl).trans hA15
    have a18 : N 0 18 = (ch : Int) := (hA 0 18 rfl).trans hA18
    have a14 : N 14 (2000 + j) = σ 14 (2000 + j) := by
      have : N 14 (2000 + j) = cpy σ ch j (2000 + j) := hA 14 (2000 + j) rfl
      rw [this]
      unfold cpy
      rw [ifn (by omega)]
    show ∃ N', f_m_charter_84 n (lp_m_charter_84 n g') fi d j N = _ ∧ _
    unfold f_m_charter_84
    rw [show (20 : Int).toNat = 20 from rfl, a15, ifn (by omega), a18, w32_s (x := 2000 + (j : Int)) (by omega) (by omega), w32_s (x := 100 * (ch : Int)) (by omega) (by omega), w32_s (x := 100 * (ch : Int) + (j : Int)) (by omega) (by omega), ckp (by omega), ckp (by omega), w_succ (by omega), show (2000 + (j : Int)).toNat = 2000 + j by omega, show (100 * (ch : Int) + (j : Int)).toNat = 100 * ch + j by omega, a14]
    have h2 := hA.set 14 (100 * ch + j) (σ 14 (2000 + j))
    rw [cpy_s] at h2
    exact ih (j + 1) g' _ (by omega) hg' h2
theorem q_charter (n : Nat) (hn : 3000 ≤ n) (fi d : Int) (hJ : J M N) : Sim (f_W_charter n fi d M) (f_m_charter n fi d N) := by
  have hJ0 := hJ
  obtain ⟨σ, hI, hA, hC⟩ := hJ
  have b := hI.1.2.1
  have a1 : N 0 1 = σ 0 1 := hA 0 1 rfl
  obtain ⟨p1, p2, p3, p4⟩ := hI.2.2.1
  obtain ⟨k1, k2, k3, k4, k5, k6⟩ := id hC
  obtain ⟨u1, u2, u3, u4, u5, u6⟩ := k3
  unfold f_W_charter f_m_charter
  simp only [e_R_isFirm n M fi (by rw [hC.1.2.1]; exact b.2), e_m_isFirm n N fi (by rw [a1]; exact b), e_W_isDay, e_m_isDay, bnd_mk, a1, hC.1.2.1, hC.1.2.2.2.2.2.1, hA.row (k := 1) (fun _ => rfl)]
  by_cases c : 0 ≤ fi ∧ fi < σ 0 1 ∧ σ 1 fi.toNat = 1
  · simp only [ifp c, n1]
    by_cases c3 : 0 ≤ d ∧ d ≤ 999
    · simp only [ifp c3, n1, u1, hA 0 18 rfl]
      by_cases c20 : σ 0 18 < 20
      · rw [ifp c20, ifp (show σ 0 18 ≠ 20 by omega)]
        obtain ⟨ch, hch⟩ := nat_of p1.1
        obtain ⟨m, hm⟩ := nat_of p2.1
        have hch20 : ch < 20 := by omega
        have hm100 : m ≤ 100 := by omega
        -- the text
        have a14 : N 14 = σ 14 := hA.row (k := 14) (fun _ => rfl)
        rw [show (20 : Int).toNat = 20 from rfl, hA 0 19 rfl]
        have hA1 : AgR (mset (mset N 15 20 (σ 0 19)) 0 19 0) (mset (mset σ 15 20 (σ 0 19)) 0 19 0) := (hA.set 15 20 (σ 0 19)).set 0 19 0
        have g14 : mset (mset N 15 20 (σ 0 19)) 0 19 0 14 = σ 14 := by rw [mg_k _ _ _ (by decide), mg_k _ _ _ (by decide), a14]
        have g15 : mset (mset N 15 20 (σ 0 19)) 0 19 0 15 20 = (m : Int) := by rw [mg_k _ _ _ (by decide), mg_s, hm]
        rcases hh : sGo (tx0 (σ 14) 20) m 6 0 with ⟨q, r⟩
        have G := e_m_goesG (n := n) (m := m) hn (N := mset (mset N 15 20 (σ 0 19)) 0 19 0) (k := 20) (by decide) g15 hm100 (by rw [g14]; exact p3) q r (by rw [g14]; exact hh)
        have P := e_C_parse (t := tx0 (σ 14) 20) (m := m) (n := n) hn (M := M) (ch := ch) hch20 (by rw [u1, hch]) hm100 (by rw [u2, hm]) (fun j hj => u5 j (by omega)) (fun j => p3 _) q r hh
        have hold : ∀ {M' : Mm}, Fr cdC PYL M M' → KTx M M' ch → ∀ kk : Nat, (kk : Int) < σ 0 18 → ∃ q l, sGo (tx0 (σ 14) kk) (σ 15 kk).toNat 6 0 = (q, some l) ∧ M' 33 kk = (l.length : Int) ∧ l.length ≤ 6 ∧ ∀ i, i < l.length → ClR (M' 34) (M' 35) (M' 36) (M' 37) (6 * kk + i) (cAt l i) := fun {M'} _ hk kk hkk => by
          obtain ⟨q, l, e1, e2, e3, e4⟩ := u6 kk hkk
          exact ⟨q, l, e1, (hk.2.2 kk (by omega)).trans e2, e3, fun i hi => ClR_k hk (by omega) (by omega) (e4 i hi)⟩
        have rest : ∀ {M' : Mm}, Fr cdC PYL M M' → CH (M' 1 0) (M' 1 1) (M' 1 2) (M' 1 3) (M' 16 0) (M' 17) (M' 18) (M' 19) (M' 20) (M' 900) (M' 901) (σ 0 0) (σ 0 1) (σ 0 2) (σ 1) (σ 2) ∧ CS (M' 1 4) (M' 1 16) (M' 21) (M' 22) (M' 23) (M' 24) (M' 27) (M' 28) (M' 29) (σ 0 0) (σ 0 3) (σ 0 4) (σ 3) (σ 4) (σ 5) (σ 6) (σ 7) (σ 8) (σ 9) (σ 10) (σ 11) ∧ CM (M' 0 8) (M' 11) (M' 12) (σ 0 63) (σ 40) (σ 41) ∧ CT (M' 13) (M' 14) (M' 100) (M' 101) (M' 102) (M' 103) (M' 104) (M' 105) (σ 47) (σ 48) (σ 49) ∧ CA (M' 10) (σ 0 71) (σ 46) := fun {M'} f => by
          rw [f 1 0 rfl, f 1 1 rfl, f 1 2 rfl, f 1 3 rfl, f 16 0 rfl, f 1 4 rfl, f 1 16 rfl, f 0 8 rfl, f.row (k := 17) (fun _ => rfl), f.row (k := 18) (fun _ => rfl), f.row (k := 19) (fun _ => rfl), f.row (k := 20) (fun _ => rfl), f.row (k := 900) (fun _ => rfl), f.row (k := 901) (fun _ => rfl), f.row (k := 21) (fun _ => rfl), f.row (k := 22) (fun _ => rfl), f.row (k := 23) (fun _ => rfl), f.row (k := 24) (fun _ => rfl), f.row (k := 27) (fun _ => rfl), f.row (k := 28) (fun _ => rfl), f.row (k := 29) (fun _ => rfl), f.row (k := 11) (fun _ => rfl), f.row (k := 12) (fun _ => rfl), f.row (k := 13) (fun _ => rfl), f.row (k := 14) (fun _ => rfl), f.row (k := 100) (fun _ => rfl), f.row (k := 101) (fun _ => rfl), f.row (k := 102) (fun _ => rfl), f.row (k := 103) (fun _ => rfl), f.row (k := 104) (fun _ => rfl), f.row (k := 105) (fun _ => rfl), f.row (k := 10) (fun _ => rfl)]
          exact ⟨k1, k2, k4, k5, k6⟩
        cases r with
        | none =>
          obtain ⟨N2, n1', n2, n3⟩ := G.1 rfl
          obtain ⟨M2, m1, m2, m3, m4⟩ := P.1 rfl
          have e20 : f_m_goes n 20 (mset (mset N 15 20 (σ 0 19)) 0 19 0) = some (0, N2) := n1'
          have hA2 := hA1.fr n3 (by decide)
          have R := rest m2
          rw [m1, bnd_mk, e20, bnd_mk, ifn (show ¬ (q : Int) < 0 by omega), ifn (show ¬ (0 : Int) ≠ 0 by decide), n2]
          refine Sim.same ⟨mset (mset σ 15 20 (σ 0 19)) 0 19 0, ⟨hI.1, hI.2.1, ⟨p1, ⟨Int.le_refl 0, (show (0 : Int) ≤ 100 by decide)⟩, p3, fun kk hkk => ?_⟩, hI.2.2.2⟩, hA2, R.1, R.2.1, ⟨(m2 2 0 rfl).trans u1, m3, (m2.row (k := 31) (fun _ => rfl)).trans u3, (m2.row (k := 32) (fun _ => rfl)).trans u4, fun j hj => absurd hj (by show ¬ (j : Int) < 0; omega), fun kk hkk => ?_⟩, R.2.2⟩ _
          · have e15 : mset (mset σ 15 20 (σ 0 19)) 0 19 0 15 kk = σ 15 kk := by
              have hk' : (kk : Int) < σ 0 18 := hkk
              rw [mg_k _ _ _ (by decide), mg_j _ _ _ (by omega)]
            show (0 ≤ σ 13 kk ∧ σ 13 kk ≤ 999) ∧ (0 ≤ mset (mset σ 15 20 (σ 0 19)) 0 19 0 15 kk ∧ mset (mset σ 15 20 (σ 0 19)) 0 19 0 15 kk ≤ 100) ∧ ∃ q l, sGo (tx0 (σ 14) kk) (mset (mset σ 15 20 (σ 0 19)) 0 19 0 15 kk).toNat 6 0 = (q, some l)
            rw [e15]
            exact p4 kk hkk
          · have hk' : (kk : Int) < σ 0 18 := hkk
            have e15 : mset (mset σ 15 20 (σ 0 19)) 0 19 0 15 kk = σ 15 kk := by
              rw [mg_k _ _ _ (by decide), mg_j _ _ _ (by omega)]
            show ∃ q l, sGo (tx0 (σ 14) kk) (mset (mset σ 15 20 (σ 0 19)) 0 19 0 15 kk).toNat 6 0 = (q, some l) ∧ M2 33 kk = (l.length : Int) ∧ l.length ≤ 6 ∧ ∀ i, i < l.length → ClR (M2 34) (M2 35) (M2 36) (M2 37) (6 * kk + i) (cAt l i)
            rw [e15]
            exact hold m2 m4 kk hk'
        | some l =>
          obtain ⟨N2, n1', n3, _, _⟩ := G.2 l rfl
          obtain ⟨M2, e', m1, m2, m3, m4, m5, m6, m7, m8⟩ := P.2 l rfl
          have e20 : f_m_goes n 20 (mset (mset N 15 20 (σ 0 19)) 0 19 0) = some (1, N2) := n1'
          have hA2 := hA1.fr n3 (by decide)
          have R := rest m2
          have b18 : N2 0 18 = (ch : Int) := (hA2 0 18 rfl).trans hch
          have b15 : N2 15 20 = (m : Int) := by rw [hA2 15 20 rfl, mg_k _ _ _ (by decide), mg_s, hm]
          have hA3 := hA2.set 15 ch (m : Int)
          have e0 : mrow (mset (mset (mset σ 15 20 (σ 0 19)) 0 19 0) 15 ch (m : Int)) 14 (cpy σ ch 0) = mset (mset (mset σ 15 20 (σ 0 19)) 0 19 0) 15 ch (m : Int) := by
            funext k i
            show (if k = 14 then cpy σ ch 0 else mset (mset (mset σ 15 20 (σ 0 19)) 0 19 0) 15 ch (m : Int) k) i = _
            by_cases z : k = 14
            · rw [ifp z, z]
              unfold cpy
              rw [ifn (by omega)]
              rfl
            · rw [ifn z]
          rw [← e0] at hA3
          obtain ⟨N4, x1, x2⟩ := l_m_charter84 (σ := σ) (n := n) hn (A := mset (mset (mset σ 15 20 (σ 0 19)) 0 19 0) 15 ch (m : Int)) hch20 hm100 fi d hch (by rw [mg_j _ _ _ (by omega), mg_k _ _ _ (by decide), mg_s, hm]) m 0 n (mset N2 15 ch (m : Int)) (by omega) (by omega) hA3
          have x1' : lp_m_charter_84 n n fi d 0 (mset N2 15 ch (m : Int)) = _ := x1
          have d20 : M2 2 0 = (ch : Int) := ((m2 2 0 rfl).trans u1).trans hch
          have ee : f_C_enact n fi d M2 = some ((ch : Int), mset (mset (mset M2 31 ch fi) 32 ch d) 2 0 ((ch + 1 : Nat) : Int)) := by
            unfold f_C_enact
            rw [d20, ckp (by omega), Int.toNat_natCast, mg_k _ _ _ (show (2 : Nat) ≠ 31 by decide), d20, ckp (by omega), Int.toNat_natCast, mg_k _ _ _ (show (2 : Nat) ≠ 32 by decide), mg_k _ _ _ (show (2 : Nat) ≠ 31 by decide), d20, w_succ (by omega), mg_s, w32_s (by omega) (by omega), show ((ch + 1 : Nat) : Int) - 1 = (ch : Int) by omega]
          rw [m1, bnd_mk, e20, bnd_mk, ifp (show (-1 : Int) < 0 by decide), ifp (show (1 : Int) ≠ 0 by decide), ee, bnd_mk, b18, ckp (by omega), Int.toNat_natCast, b15, x1']
          -- the new state
          have hcp : ∀ i, -128 ≤ cpy σ ch m i ∧ cpy σ ch m i ≤ 127 := fun i => by unfold cpy; split <;> exact p3 _
          have t15 : ∀ kk : Nat, kk < ch → mset (mset (mset σ 15 20 (σ 0 19)) 0 19 0) 15 ch (m : Int) 15 kk = σ 15 kk := fun kk hkk => by
            rw [mg_j _ _ _ (by omega), mg_k _ _ _ (by decide), mg_j _ _ _ (by omega)]
          have t15c : mset (mset (mset σ 15 20 (σ 0 19)) 0 19 0) 15 ch (m : Int) 15 ch = (m : Int) := mg_s _ _ _ _
          have tgo : ∀ kk : Nat, kk < ch → sGo (tx0 (cpy σ ch m) kk) (σ 15 kk).toNat 6 0 = sGo (tx0 (σ 14) kk) (σ 15 kk).toNat 6 0 := fun kk hkk => by
            refine sGo_c ?_ 6 0
            funext p
            unfold nx tx0
            by_cases z : p < (σ 15 kk).toNat
            · have := (p4 kk (by omega)).2.1
              rw [ifp z, ifp z]
              unfold cpy
              rw [ifn (by omega)]
            · rw [ifn z, ifn z]
          have tgc : sGo (tx0 (cpy σ ch m) ch) m 6 0 = (q, some l) := by
            rw [← hh]
            refine sGo_c ?_ 6 0
            funext p
            unfold nx tx0
            by_cases z : p < m
            · rw [ifp z, ifp z]
              unfold cpy
              rw [ifp (by omega), show 2000 + (100 * ch + p - 100 * ch) = 100 * 20 + p by omega]
            · rw [ifn z, ifn z]
          suffices JJ : J (mset (mset (mset M2 31 ch fi) 32 ch d) 2 0 ((ch + 1 : Nat) : Int)) N4 from Sim.same JJ _
          refine ⟨mset (mset (mset (mrow (mset (mset (mset σ 15 20 (σ 0 19)) 0 19 0) 15 ch (m : Int)) 14 (cpy σ ch m)) 12 ch fi) 13 ch d) 0 18 ((ch + 1 : Nat) : Int), ⟨hI.1, hI.2.1, ⟨⟨?_, ?_⟩, ⟨Int.le_refl 0, (show (0 : Int) ≤ 100 by decide)⟩, hcp, fun kk hkk => ?_⟩, hI.2.2.2⟩, x2, R.1, R.2.1, ⟨rfl, m3, ?_, ?_, fun j hj => absurd hj (by show ¬ (j : Int) < 0; omega), fun kk hkk => ?_⟩, R.2.2⟩
          · show (0 : Int) ≤ ((ch + 1 : Nat) : Int); omega
          · show ((ch + 1 : Nat) : Int) ≤ 20; omega
          · have hkk' : (kk : Int) < ((ch + 1 : Nat) : Int) := hkk
            show (0 ≤ (if kk = ch then d else σ 13 kk) ∧ (if kk = ch then d else σ 13 kk) ≤ 999) ∧ (0 ≤ mset (mset (mset σ 15 20 (σ 0 19)) 0 19 0) 15 ch (m : Int) 15 kk ∧ mset (mset (mset σ 15 20 (σ 0 19)) 0 19 0) 15 ch (m : Int) 15 kk ≤ 100) ∧ ∃ q l, sGo (tx0 (cpy σ ch m) kk) (mset (mset (mset σ 15 20 (σ 0 19)) 0 19 0) 15 ch (m : Int) 15 kk).toNat 6 0 = (q, some l)
            by_cases z : kk = ch
            · subst z
              rw [ifp rfl, t15c, Int.toNat_natCast]
              exact ⟨c3, by omega, q, l, tgc⟩
            · rw [ifn z, t15 kk (by omega), tgo kk (by omega)]
              exact p4 kk (by omega)
          · funext j
            show (if j = ch then fi else M2 31 j) = (if j = ch then fi else σ 12 j)
            rw [m2.row (k := 31) (fun _ => rfl), u3]
          · funext j
            show (if j = ch then d else M2 32 j) = (if j = ch then d else σ 13 j)
            rw [m2.row (k := 32) (fun _ => rfl), u4]
          · have hkk' : (kk : Int) < ((ch + 1 : Nat) : Int) := hkk
            show ∃ q l, sGo (tx0 (cpy σ ch m) kk) (mset (mset (mset σ 15 20 (σ 0 19)) 0 19 0) 15 ch (m : Int) 15 kk).toNat 6 0 = (q, some l) ∧ M2 33 kk = (l.length : Int) ∧ l.length ≤ 6 ∧ ∀ i, i < l.length → ClR (M2 34) (M2 35) (M2 36) (M2 37) (6 * kk + i) (cAt l i)
            by_cases z : kk = ch
            · subst z
              rw [t15c, Int.toNat_natCast]
              refine ⟨q, l, tgc, m5, m6, fun i hi => ?_⟩
              obtain ⟨y1, y2, y3, y4⟩ := m7 i hi
              refine ⟨y1, y2, y3, fun w => ?_⟩
              obtain ⟨bb, z1, z2, z3, z4⟩ := y4 w
              rw [z1, z2]
              refine ⟨by omega, by omega, by omega, fun u hu => ?_⟩
              rw [Int.toNat_natCast]
              exact z4 u hu
            · rw [t15 kk (by omega), tgo kk (by omega)]
              exact hold m2 m4 kk (by omega)
      · rw [ifn c20, ifn (show ¬ σ 0 18 ≠ 20 by omega)]; exact Sim.same hJ0 _
    · simp only [ifn c3, n0]; exact Sim.same hJ0 _
  · simp only [ifn c, n0]; exact Sim.same hJ0 _
end
