/-! The reference: texts in force, votes. -/
section
variable {σ : Mm}
theorem e_m_ruled {N : Mm} (n : Nat) (hn : 3000 ≤ n) (hI : Inv σ) (hA : AgR N σ) (f : Int) {w : Nat} (hw : w < 5) (d : Int) : ∃ N', f_m_ruled n f w d N = some (kk σ f w d, N') ∧ Fr cdR GOL N N' ∧ (0 ≤ kk σ f w d → N' 17 w = lwk σ (kk σ f w d).toNat w ∧ (w < 4 → N' 18 w = fi σ f w d) ∧ (w = 0 ∨ w = 2 → N' 19 w = se σ f w d) ∧ (w = 4 → N' 0 28 = if slp σ f d (N 16) = true then 1 else 0)) := by
  have b := hI.2.2.1.1
  have go : ∀ (r j g : Nat) (N1 : Mm), j + r = (σ 0 18).toNat → r < g → AgR N1 σ → N1 16 = N 16 → Fr cdR GOL N N1 → ∃ N', lp_m_ruled_6 n g f w d (bst σ f w d j) j N1 = some (kk σ f w d, N') ∧ Fr cdR GOL N N' ∧ (0 ≤ kk σ f w d → N' 17 w = lwk σ (kk σ f w d).toNat w ∧ (w < 4 → N' 18 w = fi σ f w d) ∧ (w = 0 ∨ w = 2 → N' 19 w = se σ f w d) ∧ (w = 4 → N' 0 28 = if slp σ f d (N 16) = true then 1 else 0)) := by
    intro r
    induction r with
    | zero =>
      intro j g N1 hj hg hA1 h16 hF
      obtain ⟨g', rfl, _⟩ := f_pos hg
      have e : j = (σ 0 18).toNat := by omega
      subst e
      show ∃ N', f_m_ruled_6 n (lp_m_ruled_6 n g') f w d (kk σ f w d) _ N1 = _ ∧ _
      have bi := bst_in σ f w d (σ 0 18).toNat
      have ed : kk σ f w d = bst σ f w d (σ 0 18).toNat := rfl
      rw [← ed] at bi
      unfold f_m_ruled_6 f_m_ruled_106
      rw [ifp (by rw [hA1 0 18 rfl]; omega)]
      by_cases c : kk σ f w d < 0
      · rw [ifp c]
        refine ⟨N1, ?_, hF, fun q => by omega⟩
        congr 2; omega
      · rw [ifn c]
        obtain ⟨k, hk⟩ := nat_of (show 0 ≤ kk σ f w d by omega)
        obtain ⟨N2, g1, g2, g3, g4, g5⟩ := e_m_goes n hn hI hA1 (k := k) (by omega)
        rw [hk, g1, bnd_mk, ifn (show ¬ (1 : Int) = 0 by decide)]
        have l2 := bi.2.2 (by omega)
        rw [hk, Int.toNat_natCast] at l2
        refine ⟨N2, rfl, hF.trans g2, fun _ => ⟨?_, fun h4 => ?_, fun h4 => ?_, fun h4 => ?_⟩⟩
        · rw [Int.toNat_natCast]; exact g3 w hw
        · unfold fi cC
          rw [ifn c, hk, Int.toNat_natCast]
          exact (g4 w h4 l2).1
        · unfold se cC
          rw [ifn c, hk, Int.toNat_natCast]
          exact (g4 w (by omega) l2).2 h4
        · subst h4
          unfold slp cC
          rw [ifn c, hk, Int.toNat_natCast, ← h16]
          exact g5 l2
    | succ r ih =>
      intro j g N1 hj hg hA1 h16 hF
      obtain ⟨g', rfl, hg'⟩ := f_pos hg
      show ∃ N', f_m_ruled_6 n (lp_m_ruled_6 n g') f w d _ j N1 = _ ∧ _
      have a12 : N1 12 = σ 12 := hA1.row fun _ => rfl
      have a13 : N1 13 = σ 13 := hA1.row fun _ => rfl
      have bi := bst_in σ f w d j
      have e : bst σ f w d (j + 1) = if σ 12 j = f ∧ σ 13 j ≤ d ∧ (bst σ f w d j < 0 ∨ σ 13 (bst σ f w d j).toNat ≤ σ 13 j) ∧ 0 ≤ lwk σ j w then (j : Int) else bst σ f w d j := rfl
      have skip : bst σ f w d (j + 1) = bst σ f w d j → ∀ N2, AgR N2 σ → N2 16 = N 16 → Fr cdR GOL N N2 → ∃ N', f_m_ruled_81 n (lp_m_ruled_6 n g') f w d (bst σ f w d j) j N2 = some (kk σ f w d, N') ∧ Fr cdR GOL N N' ∧ (0 ≤ kk σ f w d → N' 17 w = lwk σ (kk σ f w d).toNat w ∧ (w < 4 → N' 18 w = fi σ f w d) ∧ (w = 0 ∨ w = 2 → N' 19 w = se σ f w d) ∧ (w = 4 → N' 0 28 = if slp σ f d (N 16) = true then 1 else 0)) := by
        intro e2 N2 hA2 h162 hF2
        unfold f_m_ruled_81
        rw [w_succ (by omega), ← e2]
        exact ih (j + 1) g' N2 (by omega) hg' hA2 h162 hF2
      have try' : σ 12 j = f → σ 13 j ≤ d → (bst σ f w d j < 0 ∨ σ 13 (bst σ f w d j).toNat ≤ σ 13 j) → ∃ N', f_m_ruled_59 n (lp_m_ruled_6 n g') f w d (bst σ f w d j) j N1 = some (kk σ f w d, N') ∧ Fr cdR GOL N N' ∧ (0 ≤ kk σ f w d → N' 17 w = lwk σ (kk σ f w d).toNat w ∧ (w < 4 → N' 18 w = fi σ f w d) ∧ (w = 0 ∨ w = 2 → N' 19 w = se σ f w d) ∧ (w = 4 → N' 0 28 = if slp σ f d (N 16) = true then 1 else 0)) := by
        intro c1 c2 c3
        obtain ⟨N2, g1, g2, g3, g4, g5⟩ := e_m_goes n hn hI hA1 (k := j) (by omega)
        have hA2 := hA1.fr g2 (by decide)
        have h162 : N2 16 = N 16 := (g2.row (k := 16) (fun _ => rfl)).trans h16
        unfold f_m_ruled_59
        rw [g1, bnd_mk, ifn (show ¬ (1 : Int) = 0 by decide), ckp (by omega), Int.toNat_natCast, g3 w hw]
        by_cases c4 : lwk σ j w < 0
        · rw [ifp c4]
          exact skip (e.trans (ifn (fun z => by have := z.2.2.2; omega))) N2 hA2 h162 (hF.trans g2)
        · rw [ifn c4]
          unfold f_m_ruled_81
          rw [w_succ (by omega)]
          have e2 : bst σ f w d (j + 1) = (j : Int) := e.trans (ifp ⟨c1, c2, c3, by omega⟩)
          have I := ih (j + 1) g' N2 (by omega) hg' hA2 h162 (hF.trans g2)
          rw [e2] at I
          exact I
      unfold f_m_ruled_6
      simp only [ckp (show (0 : Int) ≤ (j : Int) ∧ (j : Int) < 20 by omega), Int.toNat_natCast, a12, a13]
      rw [ifn (by rw [hA1 0 18 rfl]; omega)]
      by_cases c1 : σ 12 j = f
      · rw [ifn (by simpa using c1)]
        by_cases c2 : σ 13 j ≤ d
        · rw [ifn (show ¬ d < σ 13 j by omega)]
          by_cases c3 : bst σ f w d j < 0
          · rw [ifp c3]; exact try' c1 c2 (Or.inl c3)
          · rw [ifn c3, ckp (by omega)]
            by_cases c4 : σ 13 j < σ 13 (bst σ f w d j).toNat
            · rw [ifp c4]
              exact skip (e.trans (ifn (fun z => by have := z.2.2.1; omega))) N1 hA1 h16 hF
            · rw [ifn c4]; exact try' c1 c2 (Or.inr (by omega))
        · rw [ifp (show d < σ 13 j by omega)]
          exact skip (e.trans (ifn (fun z => c2 z.2.1))) N1 hA1 h16 hF
      · rw [ifp c1]
        exact skip (e.trans (ifn (fun z => c1 z.1))) N1 hA1 h16 hF
  exact go (σ 0 18).toNat 0 n N (by omega) (by omega) hA rfl Fr.rf
theorem e_m_layOut {N : Mm} (n : Nat) (hn : 3000 ≤ n) (hI : Inv σ) (hA : AgR N σ) (d : Int) : ∃ N', f_m_layOut n d N = some (0, N') ∧ Fr cdR [1016, 1017, 22, 23] N N' ∧ ∀ s : Nat, (s : Int) < σ 0 3 → N' 22 s = (Wh σ s d).1 ∧ N' 23 s = (Wh σ s d).2 := by
  have b1 := hI.2.1.1
  have go : ∀ (r s g : Nat) (N : Mm), s + r = (σ 0 3).toNat → r < g → AgR N σ → (∀ x : Nat, x < s → N 22 x = (Wh σ x d).1 ∧ N 23 x = (Wh σ x d).2) → ∃ N', lp_m_layOut_2 n g d s N = some (0, N') ∧ Fr cdR [1016, 1017, 22, 23] N N' ∧ ∀ s : Nat, (s : Int) < σ 0 3 → N' 22 s = (Wh σ s d).1 ∧ N' 23 s = (Wh σ s d).2 := by
    intro r
    induction r with
    | zero =>
      intro s g N hs hg hA hP
      obtain ⟨g', rfl, _⟩ := f_pos hg
      show ∃ N', f_m_layOut_2 n (lp_m_layOut_2 n g') d s N = _ ∧ _
      unfold f_m_layOut_2
      rw [ifp (by rw [hA 0 3 rfl]; omega)]
      exact ⟨N, rfl, Fr.rf, fun x hx => hP x (by omega)⟩
    | succ r ih =>
      intro s g N hs hg hA hP
      obtain ⟨g', rfl, hg'⟩ := f_pos hg
      show ∃ N', f_m_layOut_2 n (lp_m_layOut_2 n g') d s N = _ ∧ _
      obtain ⟨N1, g1, g2, g3, g4⟩ := e_m_findWhose n (by omega) hI hA (s := s) (by omega) d
      unfold f_m_layOut_2
      rw [ifn (by rw [hA 0 3 rfl]; omega), g1, bnd_mk, ckp (by omega), ckp (by omega), Int.toNat_natCast, mg_k _ _ _ (show (0 : Nat) ≠ 22 by decide), g3, g4, w_succ (by omega)]
      have fr : Fr cdR [1016, 1017, 22, 23] N (mset (mset N1 22 s (Wh σ s d).1) 23 s (Wh σ s d).2) := ((g2.mono rfl).set rfl).set rfl
      obtain ⟨N2, k1, k2, k3⟩ := ih (s + 1) g' _ (by omega) hg' (hA.fr fr (by decide)) (by
        intro x hx
        by_cases e : x = s
        · subst e
          rw [mg_s, mg_k _ _ _ (by decide), mg_s]
          exact ⟨rfl, rfl⟩
        · rw [mg_j _ _ _ e, mg_k _ _ _ (by decide), mg_j _ _ _ e, mg_k _ _ _ (by decide), g2 22 x rfl, g2 23 x rfl]
          exact hP x (by omega))
      exact ⟨N2, k1, fr.trans k2, k3⟩
  exact go (σ 0 3).toNat 0 n N (by omega) (by omega) hA (fun x hx => by omega)
theorem e_m_putFacts (n : Nat) (N : Mm) (hI : Inv σ) (hA : AgR N σ) {s h : Nat} (hs : s < 40) (hh : h < 16) (days : Int) : ∃ N', f_m_putFacts n s h days N = some (0, N') ∧ Fr cdR [16] N N' ∧ ∀ j, j < 5 → N' 16 j = fct σ s h days j := by
  have a1 : N 1 = σ 1 := hA.row fun _ => rfl
  have a5 : N 5 = σ 5 := hA.row fun _ => rfl
  have a6 : N 6 = σ 6 := hA.row fun _ => rfl
  unfold f_m_putFacts
  rw [ckp (by omega), ckp (by omega), ckp (by omega)]
  simp only [Int.toNat_natCast, show (4 : Int).toNat = 4 from rfl, show (3 : Int).toNat = 3 from rfl, show (2 : Int).toNat = 2 from rfl, show (1 : Int).toNat = 1 from rfl, show (0 : Int).toNat = 0 from rfl, mg_k _ _ _ (show (5 : Nat) ≠ 16 by decide), mg_k _ _ _ (show (6 : Nat) ≠ 16 by decide), a1, a5, a6]
  refine ⟨_, rfl, ((((Fr.rf.set rfl).set rfl).set rfl).set rfl).set rfl, fun j hj => ?_⟩
  have : j = 0 ∨ j = 1 ∨ j = 2 ∨ j = 3 ∨ j = 4 := by omega
  rcases this with rfl | rfl | rfl | rfl | rfl <;> simp [mg, fct]
/-- the reference's rows of owners tell what is supposed -/
def RWo (N σ : Mm) (own sn : Nat → Int) : Prop := ∀ s : Nat, (s : Int) < σ 0 3 → (N 22 s = own s ∧ N 23 s = sn s ∧ 0 ≤ own s) ∨ (N 22 s < 0 ∧ own s < 0)
def FVL : List Nat := [16, 17, 18, 19, 20, 21, 24, 25, 26, 27, 28, 1028, 1029, 1030, 1031, 1032, 1033, 1036, 1037, 1038]
/-- a firm's votes, as the reference has them -/
def RTx (N σ : Mm) (d : Int) (own sn : Nat → Int) (x : Nat) : Prop := N 26 x = fi σ x 0 d ∧ N 27 x = se σ x 0 d ∧ N 28 x = (if gd σ x d < 0 then -1 else gd σ x d) ∧ N 25 x = Tt σ d own sn x ∧ ∀ h : Nat, (h : Int) < σ 0 1 → N 24 (16 * x + h) = Vt σ d own sn x h
def RT (N σ : Mm) (d : Int) (own sn : Nat → Int) : Prop := ∀ x : Nat, (x : Int) < σ 0 1 → isF (σ 1) x = true → RTx N σ d own sn x
theorem RWo.fr {N N' : Mm} {own sn : Nat → Int} {L : List Nat} (h : RWo N σ own sn) (f : Fr cdR L N N') (h1 : L.elem 22 = false) (h2 : L.elem 23 = false) : RWo N' σ own sn := by
  intro s hs
  rw [f 22 s h1, f 23 s h2]
  exact h s hs
theorem l_m_fv207 (n : Nat) (hI : Inv σ) (k2 : Int → Int → Mm → Rr) (d x4 x6 x7 x8 : Int) (f : Nat) (hf : f < 16) : ∀ (k h g : Nat) (N : Mm), h + k = (σ 0 1).toNat → k < g → AgR N σ → (∀ j : Nat, j < h → N 24 (16 * f + j) = 0) → ∃ N', lp_m_findVotes_207 n k2 g d f x4 x6 x7 x8 h N = lp_m_findVotes_238 n k2 n d f x4 x6 x7 x8 0 N' ∧ Fr cdR [24] N N' ∧ (∀ j : Nat, (j : Int) < σ 0 1 → N' 24 (16 * f + j) = 0) ∧ (∀ q, ¬ (16 * f ≤ q ∧ q < 16 * f + 16) → N' 24 q = N 24 q) := by
  have b := hI.1.2.1
  intro k
  induction k with
  | zero =>
    intro h g N hh hg hA hP
    obtain ⟨g', rfl, _⟩ := f_pos hg
    show ∃ N', f_m_findVotes_207 n k2 (lp_m_findVotes_207 n k2 g') d f x4 x6 x7 x8 h N = _ ∧ _
    unfold f_m_findVotes_207
    rw [ifp (by rw [hA 0 1 rfl]; omega)]
    exact ⟨N, rfl, Fr.rf, fun j hj => hP j (by omega), fun _ _ => rfl⟩
  | succ k ih =>
    intro h g N hh hg hA hP
    obtain ⟨g', rfl, hg'⟩ := f_pos hg
    show ∃ N', f_m_findVotes_207 n k2 (lp_m_findVotes_207 n k2 g') d f x4 x6 x7 x8 h N = _ ∧ _
    unfold f_m_findVotes_207
    rw [ifn (by rw [hA 0 1 rfl]; omega), w32_s (x := 16 * (f : Int)) (by omega) (by omega), w32_s (x := 16 * (f : Int) + h) (by omega) (by omega), ckp (by omega), w_succ (by omega), show (16 * (f : Int) + h).toNat = 16 * f + h by omega]
    have fr : Fr cdR [24] N (mset N 24 (16 * f + h) 0) := Fr.rf.set rfl
    obtain ⟨N2, k1, k3, k4, k5⟩ := ih (h + 1) g' _ (by omega) hg' (hA.fr fr (by decide)) (by
      intro j hj
      by_cases e : j = h
      · rw [e, mg_s]
      · rw [mg_j _ _ _ (by omega)]; exact hP j (by omega))
    exact ⟨N2, k1, fr.trans k3, k4, fun q hq => by rw [k5 q hq, mg_j _ _ _ (by omega)]⟩
theorem l_m_fv403 (n : Nat) (hI : Inv σ) (k2 : Int → Int → Mm → Rr) (d : Int) (own sn : Nat → Int) (f : Nat) (hf : f < 16) : ∀ (k h g : Nat) (N : Mm), h + k = (σ 0 1).toNat → k < g → AgR N σ → (∀ j : Nat, j < h → N 24 (16 * f + j) = Vt σ d own sn f j) → (∀ j : Nat, h ≤ j → (j : Int) < σ 0 1 → N 24 (16 * f + j) = rwv σ d own sn f j (σ 0 3).toNat) → N 25 f = sm h (Vt σ d own sn f) → ∃ N', lp_m_findVotes_403 n k2 g d f (fi σ f 1 d) h N = k2 d ((f + 1 : Nat) : Int) N' ∧ Fr cdR [24, 25] N N' ∧ (∀ j : Nat, (j : Int) < σ 0 1 → N' 24 (16 * f + j) = Vt σ d own sn f j) ∧ N' 25 f = Tt σ d own sn f ∧ (∀ q, ¬ (16 * f ≤ q ∧ q < 16 * f + 16) → N' 24 q = N 24 q) ∧ (∀ q, q ≠ f → N' 25 q = N 25 q) := by
  have b := hI.1.2.1
  intro k
  induction k with
  | zero =>
    intro h g N hh hg hA hP hQ hR
    obtain ⟨g', rfl, _⟩ := f_pos hg
    have e : h = (σ 0 1).toNat := by omega
    subst e
    show ∃ N', f_m_findVotes_403 n k2 (lp_m_findVotes_403 n k2 g') d f _ _ N = _ ∧ _
    unfold f_m_findVotes_403 f_m_findVotes_470
    rw [ifp (by rw [hA 0 1 rfl]; omega), w_succ (by omega)]
    exact ⟨N, rfl, Fr.rf, fun j hj => hP j (by omega), hR, fun _ _ => rfl, fun _ _ => rfl⟩
  | succ k ih =>
    intro h g N hh hg hA hP hQ hR
    obtain ⟨g', rfl, hg'⟩ := f_pos hg
    show ∃ N', f_m_findVotes_403 n k2 (lp_m_findVotes_403 n k2 g') d f _ h N = _ ∧ _
    have eq := hQ h (Nat.le_refl _) (by omega)
    have eV : Vt σ d own sn f h = min (rwv σ d own sn f h (σ 0 3).toNat) (fi σ f 1 d) := rfl
    have bV := Vt_in hI d own sn f h
    have s1 := sm_nn (g := Vt σ d own sn f) (k := h) (fun j _ => (Vt_in hI d own sn f j).1)
    have s2 := sm_ub (g := Vt σ d own sn f) (k := h) (B := 999) (fun j _ => (Vt_in hI d own sn f j).2)
    have next : ∀ N2, AgR N2 σ → Fr cdR [24, 25] N N2 → N2 24 (16 * f + h) = Vt σ d own sn f h → (∀ q, q ≠ 16 * f + h → N2 24 q = N 24 q) → (∀ q, N2 25 q = N 25 q) → ∃ N', f_m_findVotes_443 n k2 (lp_m_findVotes_403 n k2 g') d f (fi σ f 1 d) h N2 = k2 d ((f + 1 : Nat) : Int) N' ∧ Fr cdR [24, 25] N N' ∧ (∀ j : Nat, (j : Int) < σ 0 1 → N' 24 (16 * f + j) = Vt σ d own sn f j) ∧ N' 25 f = Tt σ d own sn f ∧ (∀ q, ¬ (16 * f ≤ q ∧ q < 16 * f + 16) → N' 24 q = N 24 q) ∧ (∀ q, q ≠ f → N' 25 q = N 25 q) := by
      intro N2 hA2 hF2 e1 e2 e3
      unfold f_m_findVotes_443
      rw [ckp (by omega), w32_s (x := 16 * (f : Int)) (by omega) (by omega), w32_s (x := 16 * (f : Int) + h) (by omega) (by omega), ckp (by omega), ckp (by omega), w_succ (by omega), show (16 * (f : Int) + h).toNat = 16 * f + h by omega, Int.toNat_natCast, e1, e3, hR, w32_s (by omega) (by omega)]
      have fr : Fr cdR [24, 25] N (mset N2 25 f (sm h (Vt σ d own sn f) + Vt σ d own sn f h)) := hF2.set rfl
      obtain ⟨N3, k1, k3, k4, k5, k6, k7⟩ := ih (h + 1) g' _ (by omega) hg' (hA.fr fr (by decide)) (by
        intro j hj
        rw [mg_k _ _ _ (by decide)]
        by_cases e : j = h
        · rw [e]; exact e1
        · rw [e2 _ (by omega)]; exact hP j (by omega)) (by
        intro j hj hj2
        rw [mg_k _ _ _ (by decide), e2 _ (by omega)]
        exact hQ j (by omega) hj2) (by rw [mg_s]; rfl)
      refine ⟨N3, k1, fr.trans k3, k4, k5, fun q hq => ?_, fun q hq => ?_⟩
      · rw [k6 q hq, mg_k _ _ _ (by decide)]; exact e2 q (by omega)
      · rw [k7 q hq, mg_j _ _ _ hq]; exact e3 q
    unfold f_m_findVotes_403
    rw [ifn (by rw [hA 0 1 rfl]; omega), w32_s (x := 16 * (f : Int)) (by omega) (by omega), w32_s (x := 16 * (f : Int) + h) (by omega) (by omega), ckp (by omega), show (16 * (f : Int) + h).toNat = 16 * f + h by omega, eq]
    by_cases c : rwv σ d own sn f h (σ 0 3).toNat ≤ fi σ f 1 d
    · rw [ifp c]
      exact next N hA Fr.rf (by rw [eq, eV]; omega) (fun _ _ => rfl) (fun _ => rfl)
    · rw [ifn c, ckp (by omega)]
      have fr : Fr cdR [24, 25] N (mset N 24 (16 * f + h) (fi σ f 1 d)) := Fr.rf.set rfl
      exact next _ (hA.fr fr (by decide)) fr (by rw [mg_s, eV]; omega) (fun q hq => mg_j _ _ _ hq) (fun q => by rw [mg_k _ _ _ (by decide)])
theorem l_m_fv238 (n : Nat) (hn : 3000 ≤ n) (hI : Inv σ) (k2 : Int → Int → Mm → Rr) {d : Int} (hd : 0 ≤ d ∧ d ≤ 999) {own sn : Nat → Int} (hO : okO σ own sn) {f : Nat} (hf : (f : Int) < σ 0 1) (hF : isF (σ 1) f = true) : ∀ (k s g : Nat) (N : Mm), s + k = (σ 0 3).toNat → k < g → AgR N σ → RWo N σ own sn → (∀ j : Nat, (j : Int) < σ 0 1 → N 24 (16 * f + j) = rwv σ d own sn f j s) → ∃ N', lp_m_findVotes_238 n k2 g d f (fi σ f 1 d) (fi σ f 2 d) (se σ f 2 d) (kk σ f 4 d) s N = lp_m_findVotes_403 n k2 n d f (fi σ f 1 d) 0 N' ∧ Fr cdR FVL N N' ∧ (∀ j : Nat, (j : Int) < σ 0 1 → N' 24 (16 * f + j) = rwv σ d own sn f j (σ 0 3).toNat) ∧ (∀ q, ¬ (16 * f ≤ q ∧ q < 16 * f + 16) → N' 24 q = N 24 q) ∧ N' 25 f = 0 ∧ (∀ q, q ≠ f → N' 25 q = N 25 q) ∧ (∀ q, N' 26 q = N 26 q ∧ N' 27 q = N 27 q ∧ N' 28 q = N 28 q) := by
  have b := hI.1.2.1
  have b1 := hI.2.1.1
  have bC := hI.2.2.1.1
  intro k
  induction k with
  | zero =>
    intro s g N hs hg hA hW hP
    obtain ⟨g', rfl, _⟩ := f_pos hg
    have e : s = (σ 0 3).toNat := by omega
    subst e
    show ∃ N', f_m_findVotes_238 n k2 (lp_m_findVotes_238 n k2 g') d f _ _ _ _ _ N = _ ∧ _
    unfold f_m_findVotes_238
    rw [ifp (by rw [hA 0 3 rfl]; omega), ckp (by omega), Int.toNat_natCast]
    refine ⟨_, rfl, Fr.rf.set rfl, fun j hj => ?_, fun q _ => ?_, mg_s _ _ _ _, fun q hq => mg_j _ _ _ hq, fun q => ⟨?_, ?_, ?_⟩⟩
    · rw [mg_k _ _ _ (by decide)]; exact hP j hj
    · rw [mg_k _ _ _ (by decide)]
    · rw [mg_k _ _ _ (by decide)]
    · rw [mg_k _ _ _ (by decide)]
    · rw [mg_k _ _ _ (by decide)]
  | succ k ih =>
    intro s g N hs hg hA hW hP
    obtain ⟨g', rfl, hg'⟩ := f_pos hg
    show ∃ N', f_m_findVotes_238 n k2 (lp_m_findVotes_238 n k2 g') d f _ _ _ _ s N = _ ∧ _
    have hS := hI.2.1.2.2.2.1 s (by omega)
    have hw := hW s (by omega)
    have hO1 := hO s (by omega)
    have a3 : N 3 = σ 3 := hA.row fun _ => rfl
    have a1 : N 1 = σ 1 := hA.row fun _ => rfl
    have er : ∀ j : Nat, rwv σ d own sn f j (s + 1) = rwv σ d own sn f j s + (if σ 3 s = (f : Int) ∧ own s = (j : Int) then wt σ d (own s) (sn s) s else 0) := fun j => rfl
    -- nothing is added
    have skip : (∀ j : Nat, (j : Int) < σ 0 1 → σ 3 s = (f : Int) → own s = (j : Int) → wt σ d (own s) (sn s) s = 0) → ∀ N2, AgR N2 σ → Fr cdR GOL (mrow N 16 (N2 16)) N2 → ∃ N', f_m_findVotes_387 n k2 (lp_m_findVotes_238 n k2 g') d f (fi σ f 1 d) (fi σ f 2 d) (se σ f 2 d) (kk σ f 4 d) s N2 = lp_m_findVotes_403 n k2 n d f (fi σ f 1 d) 0 N' ∧ Fr cdR FVL N N' ∧ (∀ j : Nat, (j : Int) < σ 0 1 → N' 24 (16 * f + j) = rwv σ d own sn f j (σ 0 3).toNat) ∧ (∀ q, ¬ (16 * f ≤ q ∧ q < 16 * f + 16) → N' 24 q = N 24 q) ∧ N' 25 f = 0 ∧ (∀ q, q ≠ f → N' 25 q = N 25 q) ∧ (∀ q, N' 26 q = N 26 q ∧ N' 27 q = N 27 q ∧ N' 28 q = N 28 q) := by
      intro hz N2 hA2 hF2
      have g24 : N2 24 = N 24 := (hF2.row (k := 24) (fun _ => rfl)).trans (mr_ne (by decide))
      have g25 : N2 25 = N 25 := (hF2.row (k := 25) (fun _ => rfl)).trans (mr_ne (by decide))
      have g26 : N2 26 = N 26 := (hF2.row (k := 26) (fun _ => rfl)).trans (mr_ne (by decide))
      have g27 : N2 27 = N 27 := (hF2.row (k := 27) (fun _ => rfl)).trans (mr_ne (by decide))
      have g28 : N2 28 = N 28 := (hF2.row (k := 28) (fun _ => rfl)).trans (mr_ne (by decide))
      have g22 : N2 22 = N 22 := (hF2.row (k := 22) (fun _ => rfl)).trans (mr_ne (by decide))
      have g23 : N2 23 = N 23 := (hF2.row (k := 23) (fun _ => rfl)).trans (mr_ne (by decide))
      have fr : Fr cdR FVL N N2 := (Fr.rowset Fr.rf (fun _ => rfl)).trans (hF2.mono (by decide))
      unfold f_m_findVotes_387
      rw [w_succ (by omega)]
      obtain ⟨N3, k1, k3, k4, k5, k6, k7, k8⟩ := ih (s + 1) g' N2 (by omega) hg' hA2 (fun x hx => by rw [g22, g23]; exact hW x hx) (by
        intro j hj
        rw [g24, hP j hj, er]
        by_cases c : σ 3 s = (f : Int) ∧ own s = (j : Int)
        · rw [ifp c, hz j hj c.1 c.2]; omega
        · rw [ifn c]; omega)
      exact ⟨N3, k1, fr.trans k3, k4, fun q hq => by rw [k5 q hq, g24], k6, fun q hq => by rw [k7 q hq, g25], fun q => by rw [(k8 q).1, (k8 q).2.1, (k8 q).2.2, g26, g27, g28]; exact ⟨rfl, rfl, rfl⟩⟩
    have same : Fr cdR GOL (mrow N 16 (N 16)) N := by
      intro k j _
      by_cases e : k = 16
      · rw [e, mr_eq]
      · rw [mr_ne e]
    unfold f_m_findVotes_238
    simp only [ckp (show (0 : Int) ≤ (s : Int) ∧ (s : Int) < 40 by omega), Int.toNat_natCast, a3, a1]
    rw [ifn (by rw [hA 0 3 rfl]; omega)]
    by_cases c1 : σ 3 s = (f : Int)
    · rw [ifn (by simpa using c1)]
      by_cases c2 : N 22 s < 0
      · rw [ifp c2]
        exact skip (fun j hj _ h2 => by rcases hw with q | q <;> omega) N hA same
      · rw [ifn c2]
        rcases hw with ⟨w1, w2, w3⟩ | ⟨w1, _⟩
        · rw [w1]
          obtain ⟨h, hh⟩ := nat_of w3
          have hO2 : own s < σ 0 1 ∧ 0 ≤ sn s ∧ sn s ≤ 999 := by rcases hO1 with q | q <;> omega
          have wdef : wt σ d (own s) (sn s) s = if own s < 0 ∨ own s = σ 3 s ∨ σ 1 (own s).toNat = 4 ∨ σ 1 (own s).toNat = 5 ∨ slp σ (σ 3 s) d (fct σ s (own s) (d - sn s)) = true then 0 else σ 6 s * (if fi σ (σ 3 s) 2 d ≤ d - sn s then se σ (σ 3 s) 2 d else 1) := rfl
          by_cases c3 : own s = (f : Int)
          · rw [ifp c3]
            exact skip (fun j hj _ _ => by rw [wdef, ifp (Or.inr (Or.inl (by omega)))]) N hA same
          · rw [ifn c3]
            simp only [ckp (show 0 ≤ own s ∧ own s < 16 by omega)]
            by_cases c4 : σ 1 (own s).toNat = 4
            · rw [ifp c4]
              exact skip (fun j hj _ _ => by rw [wdef, ifp (Or.inr (Or.inr (Or.inl c4)))]) N hA same
            · rw [ifn c4]
              by_cases c5 : σ 1 (own s).toNat = 5
              · rw [ifn (by simpa using c5)]
                exact skip (fun j hj _ _ => by rw [wdef, ifp (Or.inr (Or.inr (Or.inr (Or.inl c5))))]) N hA same
              · rw [ifp (show σ 1 (own s).toNat ≠ 5 from c5), w2, w32_s (x := d - sn s) (by omega) (by omega), hh]
                obtain ⟨N1, g1, g2, g3⟩ := e_m_putFacts n N hI hA (s := s) (h := h) (by omega) (by omega) (d - sn s)
                rw [g1, bnd_mk]
                have hA1 := hA.fr g2 (by decide)
                have e1 : mrow N 16 (N1 16) = N1 := by
                  funext k j
                  by_cases e : k = 16
                  · rw [e, mr_eq]
                  · rw [mr_ne e]
                    refine (g2 k j ?_).symm
                    unfold cdR
                    by_cases e0 : k = 0
                    · rw [ifp e0]; simp; omega
                    · rw [ifn e0]; simp; omega
                -- something is added
                have add : ¬ slp σ f d (fct σ s h (d - sn s)) = true → ∀ N2, AgR N2 σ → Fr cdR GOL (mrow N 16 (N2 16)) N2 → ∃ N', f_m_findVotes_344 n k2 (lp_m_findVotes_238 n k2 g') d f (fi σ f 1 d) (fi σ f 2 d) (se σ f 2 d) (kk σ f 4 d) s h N2 = lp_m_findVotes_403 n k2 n d f (fi σ f 1 d) 0 N' ∧ Fr cdR FVL N N' ∧ (∀ j : Nat, (j : Int) < σ 0 1 → N' 24 (16 * f + j) = rwv σ d own sn f j (σ 0 3).toNat) ∧ (∀ q, ¬ (16 * f ≤ q ∧ q < 16 * f + 16) → N' 24 q = N 24 q) ∧ N' 25 f = 0 ∧ (∀ q, q ≠ f → N' 25 q = N 25 q) ∧ (∀ q, N' 26 q = N 26 q ∧ N' 27 q = N 27 q ∧ N' 28 q = N 28 q) := by
                  intro hns N2 hA2 hF2
                  have g24 : N2 24 = N 24 := (hF2.row (k := 24) (fun _ => rfl)).trans (mr_ne (by decide))
                  have g25 : N2 25 = N 25 := (hF2.row (k := 25) (fun _ => rfl)).trans (mr_ne (by decide))
                  have g26 : N2 26 = N 26 := (hF2.row (k := 26) (fun _ => rfl)).trans (mr_ne (by decide))
                  have g27 : N2 27 = N 27 := (hF2.row (k := 27) (fun _ => rfl)).trans (mr_ne (by decide))
                  have g28 : N2 28 = N 28 := (hF2.row (k := 28) (fun _ => rfl)).trans (mr_ne (by decide))
                  have g22 : N2 22 = N 22 := (hF2.row (k := 22) (fun _ => rfl)).trans (mr_ne (by decide))
                  have g23 : N2 23 = N 23 := (hF2.row (k := 23) (fun _ => rfl)).trans (mr_ne (by decide))
                  have fr : Fr cdR FVL N N2 := (Fr.rowset Fr.rf (fun _ => rfl)).trans (hF2.mono (by decide))
                  have hwt : wt σ d (own s) (sn s) s = σ 6 s * (if fi σ f 2 d ≤ d - sn s then se σ f 2 d else 1) := by
                    rw [wdef, c1, ifn]
                    rintro (q | q | q | q | q)
                    · omega
                    · exact c3 q
                    · exact c4 q
                    · exact c5 q
                    · rw [hh] at q; exact hns q
                  have bw := wt_in hI d (own s) (sn s) (s := s) (by omega)
                  have br := rwv_in hI d own sn f h (k := s) (by omega)
                  have b6 := hS.2.2.2.1
                  have b5 := se_in hI f (w := 2) (Or.inr rfl) d
                  have h1 := Int.mul_nonneg b6.1 b5.1
                  have h2 : σ 6 s * se σ f 2 d ≤ 99 * 999 := Int.mul_le_mul b6.2 b5.2.1 b5.1 (by decide)
                  have e24 := hP h (by omega)
                  have fin : ∀ v, v = wt σ d (own s) (sn s) s → ∃ N', f_m_findVotes_387 n k2 (lp_m_findVotes_238 n k2 g') d f (fi σ f 1 d) (fi σ f 2 d) (se σ f 2 d) (kk σ f 4 d) s (mset N2 24 (16 * f + h) (rwv σ d own sn f h s + v)) = lp_m_findVotes_403 n k2 n d f (fi σ f 1 d) 0 N' ∧ Fr cdR FVL N N' ∧ (∀ j : Nat, (j : Int) < σ 0 1 → N' 24 (16 * f + j) = rwv σ d own sn f j (σ 0 3).toNat) ∧ (∀ q, ¬ (16 * f ≤ q ∧ q < 16 * f + 16) → N' 24 q = N 24 q) ∧ N' 25 f = 0 ∧ (∀ q, q ≠ f → N' 25 q = N 25 q) ∧ (∀ q, N' 26 q = N 26 q ∧ N' 27 q = N 27 q ∧ N' 28 q = N 28 q) := by
                    intro v hv
                    have fr2 : Fr cdR FVL N (mset N2 24 (16 * f + h) (rwv σ d own sn f h s + v)) := fr.set rfl
                    unfold f_m_findVotes_387
                    rw [w_succ (by omega)]
                    obtain ⟨N3, k1, k3, k4, k5, k6, k7, k8⟩ := ih (s + 1) g' _ (by omega) hg' (hA.fr fr2 (by decide)) (fun x hx => by rw [mg_k _ _ _ (by decide), mg_k _ _ _ (by decide), g22, g23]; exact hW x hx) (by
                      intro j hj
                      rw [er]
                      by_cases c : j = h
                      · rw [c, mg_s, ifp ⟨c1, hh⟩, hv]
                      · rw [mg_j _ _ _ (by omega), g24, hP j hj, ifn (by omega)]; omega)
                    refine ⟨N3, k1, fr2.trans k3, k4, fun q hq => ?_, k6, fun q hq => ?_, fun q => ?_⟩
                    · rw [k5 q hq, mg_j _ _ _ (by omega), g24]
                    · rw [k7 q hq, mg_k _ _ _ (by decide), g25]
                    · rw [(k8 q).1, (k8 q).2.1, (k8 q).2.2, mg_k _ _ _ (by decide), mg_k _ _ _ (by decide), mg_k _ _ _ (by decide), g26, g27, g28]; exact ⟨rfl, rfl, rfl⟩
                  unfold f_m_findVotes_344 f_m_findVotes_384
                  simp only [ckp (show (0 : Int) ≤ (s : Int) ∧ (s : Int) < 40 by omega), Int.toNat_natCast]
                  rw [w32_s (x := 16 * (f : Int)) (by omega) (by omega), w32_s (x := 16 * (f : Int) + h) (by omega) (by omega), ckp (by omega), ckp (by omega), show (16 * (f : Int) + h).toNat = 16 * f + h by omega, g24, e24, g23, w2, w32_s (x := d - sn s) (by omega) (by omega), hA2.row (k := 6) (fun _ => rfl)]
                  by_cases c6 : d - sn s < fi σ f 2 d
                  · rw [ifp c6]
                    rw [ifn (show ¬ fi σ f 2 d ≤ d - sn s by omega)] at hwt
                    rw [w32_s (x := σ 6 s * 1) (by omega) (by omega), w32_s (by omega) (by omega)]
                    try rw [ckp (show (0 : Int) ≤ 16 * (f : Int) + h ∧ 16 * (f : Int) + h < 256 by omega)]
                    exact fin (σ 6 s * 1) hwt.symm
                  · rw [ifn c6]
                    rw [ifp (show fi σ f 2 d ≤ d - sn s by omega)] at hwt
                    rw [w32_s (x := σ 6 s * se σ f 2 d) (by omega) (by omega), w32_s (by omega) (by omega)]
                    try rw [ckp (show (0 : Int) ≤ 16 * (f : Int) + h ∧ 16 * (f : Int) + h < 256 by omega)]
                    exact fin (σ 6 s * se σ f 2 d) hwt.symm
                by_cases c6 : kk σ f 4 d < 0
                · rw [ifp c6]
                  exact add (by unfold slp; rw [ifp c6]; simp) N1 hA1 (by rw [e1]; exact Fr.rf)
                · rw [ifn c6]
                  have bi := bst_in σ f 4 d (σ 0 18).toNat
                  have ed : kk σ f 4 d = bst σ f 4 d (σ 0 18).toNat := rfl
                  rw [← ed] at bi
                  obtain ⟨kt, hkt⟩ := nat_of (show 0 ≤ kk σ f 4 d by omega)
                  obtain ⟨N2, m1, m2, m3, m4, m5⟩ := e_m_goes n hn hI hA1 (k := kt) (by omega)
                  have hA2 := hA1.fr m2 (by decide)
                  have l2 := bi.2.2 (by omega)
                  rw [hkt, Int.toNat_natCast] at l2
                  have m5' := m5 l2
                  have es : slp σ f d (fct σ s h (d - sn s)) = evB (N1 16) (cAt (CL σ kt) (lwk σ kt 4).toNat).2.2.2 := by
                    rw [slp_c hI f d (φ := fct σ s h (d - sn s)) (ψ := N1 16) (fun j hj => (g3 j hj).symm)]
                    unfold slp cC
                    rw [ifn c6, hkt, Int.toNat_natCast]
                  have e16 : N2 16 = N1 16 := m2.row (fun _ => rfl)
                  have hF2 : Fr cdR GOL (mrow N 16 (N2 16)) N2 := by rw [e16, e1]; exact m2
                  rw [hkt, m1, bnd_mk, ifn (show ¬ (1 : Int) = 0 by decide), m5', ← hkt]
                  by_cases c7 : evB (N1 16) (cAt (CL σ kt) (lwk σ kt 4).toNat).2.2.2 = true
                  · rw [ifp c7, ifn (show ¬ (1 : Int) = 0 by decide)]
                    refine skip (fun j hj _ _ => ?_) N2 hA2 hF2
                    rw [wdef, ifp]
                    refine Or.inr (Or.inr (Or.inr (Or.inr ?_)))
                    rw [c1, hh, es]; exact c7
                  · rw [ifn c7, ifp (show (0 : Int) = 0 from rfl)]
                    exact add (by rw [es]; exact c7) N2 hA2 hF2
        · exact absurd w1 c2
    · rw [ifp c1]
      exact skip (fun j hj h1 _ => absurd h1 c1) N hA same
end
