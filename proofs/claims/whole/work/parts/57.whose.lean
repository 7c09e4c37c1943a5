/-! Whose a share is, since when; sales and shares. -/
def Wh (σ : Mm) (s : Nat) (d : Int) : Int × Int := whR (σ 4) (σ 8) (σ 9) (σ 10) (σ 11) s d (σ 0 4).toNat
def ow (σ : Mm) (s : Nat) (d : Int) : Int := if (Wh σ s d).1 < 0 then -5 else (Wh σ s d).1
def si (σ : Mm) (s : Nat) (d : Int) : Int := if (Wh σ s d).1 < 0 then -5 else (Wh σ s d).2
theorem whR_congr {s1 ca xs xt xd s1' ca' xs' xt' xd' : Nat → Int} {s : Nat} {d : Int} (h0 : s1 s = s1' s ∧ ca s = ca' s) : ∀ {k : Nat}, (∀ i, i < k → xs i = xs' i ∧ xt i = xt' i ∧ xd i = xd' i) → whR s1 ca xs xt xd s d k = whR s1' ca' xs' xt' xd' s d k
  | 0, _ => by unfold whR; rw [h0.1, h0.2]
  | k + 1, h => by
    unfold whR
    rw [whR_congr h0 (fun i hi => h i (by omega)), (h k (by omega)).1, (h k (by omega)).2.1, (h k (by omega)).2.2]
theorem whC_congr {ms mh md ms' mh' md' : Nat → Int} {s : Nat} {d : Int} : ∀ {k : Nat}, (∀ i, i < k → ms i = ms' i ∧ mh i = mh' i ∧ md i = md' i) → whC ms mh md s d k = whC ms' mh' md' s d k
  | 0, _ => rfl
  | k + 1, h => by
    unfold whC
    rw [whC_congr (fun i hi => h i (by omega)), (h k (by omega)).1, (h k (by omega)).2.1, (h k (by omega)).2.2]
theorem whC_stop {ms mh md : Nat → Int} {s : Nat} {d : Int} {k : Nat} : ∀ r : Nat, (∀ j, k ≤ j → j < k + r → d < md j) → whC ms mh md s d (k + r) = whC ms mh md s d k
  | 0, _ => rfl
  | r + 1, h => by
    show (if ms (k + r) = (s : Int) ∧ md (k + r) ≤ d then (mh (k + r), md (k + r)) else whC ms mh md s d (k + r)) = _
    rw [ifn (fun q => by have := h (k + r) (by omega) (by omega); omega)]
    exact whC_stop r (fun j h1 h2 => h j h1 (by omega))
theorem l_m_findWhose (n s : Nat) (d : Int) (hs : s < 40) (sa : Nat) (hsa : sa ≤ 120) (s1 ca xs xt xd : Nat → Int) : ∀ (r k f : Nat) (N : Mm), k + r = sa → r < f → N 0 4 = (sa : Int) → N 9 = xs → N 10 = xt → N 11 = xd → N 0 16 = (whR s1 ca xs xt xd s d k).1 → N 0 17 = (whR s1 ca xs xt xd s d k).2 →
    ∃ N', lp_m_findWhose_36 n f s d k N = some (0, N') ∧ Fr cdR [1016, 1017] N N' ∧ N' 0 16 = (whR s1 ca xs xt xd s d sa).1 ∧ N' 0 17 = (whR s1 ca xs xt xd s d sa).2 := by
  intro r
  induction r with
  | zero =>
    intro k f N hk hf h4 h9 h10 h11 h16 h17
    obtain ⟨f', rfl, hf'⟩ := f_pos hf
    have e : k = sa := by omega
    subst e
    refine ⟨N, ?_, Fr.rf, h16, h17⟩
    show f_m_findWhose_36 n (lp_m_findWhose_36 n f') s d k N = _
    unfold f_m_findWhose_36
    rw [ifp (by omega)]
  | succ r ih =>
    intro k f N hk hf h4 h9 h10 h11 h16 h17
    obtain ⟨f', rfl, hf'⟩ := f_pos hf
    have hck : (0 : Int) ≤ (k : Int) ∧ (k : Int) < 120 := by omega
    have e : whR s1 ca xs xt xd s d (k + 1) = if xs k = (s : Int) ∧ xd k ≤ d then (xt k, xd k) else whR s1 ca xs xt xd s d k := rfl
    have next : ∀ N2, N2 0 4 = (sa : Int) → N2 9 = xs → N2 10 = xt → N2 11 = xd → N2 0 16 = (whR s1 ca xs xt xd s d (k + 1)).1 → N2 0 17 = (whR s1 ca xs xt xd s d (k + 1)).2 → Fr cdR [1016, 1017] N N2 →
        ∃ N', f_m_findWhose_87 n (lp_m_findWhose_36 n f') s d k N2 = some (0, N') ∧ Fr cdR [1016, 1017] N N' ∧ N' 0 16 = (whR s1 ca xs xt xd s d sa).1 ∧ N' 0 17 = (whR s1 ca xs xt xd s d sa).2 := by
      intro N2 g4 g9 g10 g11 g16 g17 gF
      obtain ⟨N', e1, e2, e3, e4⟩ := ih (k + 1) f' N2 (by omega) hf' g4 g9 g10 g11 g16 g17
      refine ⟨N', ?_, gF.trans e2, e3, e4⟩
      unfold f_m_findWhose_87
      rw [w_succ (by omega)]
      exact e1
    show ∃ N', f_m_findWhose_36 n (lp_m_findWhose_36 n f') s d k N = some (0, N') ∧ _
    unfold f_m_findWhose_36
    simp only [ckp hck, Int.toNat_natCast, h9, h10, h11]
    rw [ifn (by omega)]
    by_cases c : xs k = (s : Int)
    · rw [ifn (by simpa using c)]
      by_cases c2 : xd k ≤ d
      · rw [ifp c2]
        rw [ifp ⟨c, c2⟩] at e
        refine next _ ?_ ?_ ?_ ?_ ?_ ?_ ?_
        · simp [mg, h4]
        · rw [mg_k _ _ _ (by decide), mg_k _ _ _ (by decide), h9]
        · rw [mg_k _ _ _ (by decide), mg_k _ _ _ (by decide), h10]
        · rw [mg_k _ _ _ (by decide), mg_k _ _ _ (by decide), h11]
        · rw [e]; simp [mg]
        · rw [e]; simp [mg, h11]
        · exact (Fr.rf.set rfl).set rfl
      · rw [ifn c2]
        rw [ifn (fun q => c2 q.2)] at e
        exact next N h4 h9 h10 h11 (by rw [e]; exact h16) (by rw [e]; exact h17) Fr.rf
    · rw [ifp c]
      rw [ifn (fun q => c q.1)] at e
      exact next N h4 h9 h10 h11 (by rw [e]; exact h16) (by rw [e]; exact h17) Fr.rf
theorem e_m_findWhose {N σ : Mm} (n : Nat) (hn : 200 ≤ n) (hI : Inv σ) (hA : AgR N σ) {s : Nat} (hs : (s : Int) < σ 0 3) (d : Int) : ∃ N', f_m_findWhose n s d N = some (0, N') ∧ Fr cdR [1016, 1017] N N' ∧ N' 0 16 = (Wh σ s d).1 ∧ N' 0 17 = (Wh σ s d).2 := by
  have b1 := hI.2.1.1
  have b2 := hI.2.1.2.1
  have e4 : N 4 = σ 4 := hA.row fun _ => rfl
  have e8 : N 8 = σ 8 := hA.row fun _ => rfl
  have go : ∀ (v : Int), v = (if d < σ 8 s then -1 else σ 4 s) → ∃ N', f_m_findWhose_21 n s d v N = some (0, N') ∧ Fr cdR [1016, 1017] N N' ∧ N' 0 16 = (Wh σ s d).1 ∧ N' 0 17 = (Wh σ s d).2 := by
    intro v hv
    unfold f_m_findWhose_21
    rw [ckp (by omega)]
    obtain ⟨N', e1, e2, e3, e4⟩ := l_m_findWhose n s d (by omega) (σ 0 4).toNat (by omega) (σ 4) (σ 8) (σ 9) (σ 10) (σ 11) (σ 0 4).toNat 0 n (mset (mset N 0 16 v) 0 17 ((mset N 0 16 v) 8 (s : Int).toNat)) (by omega) (by omega)
      (by rw [mg_j _ _ _ (by decide), mg_j _ _ _ (by decide), hA 0 4 rfl]; omega)
      (by rw [mg_k _ _ _ (by decide), mg_k _ _ _ (by decide)]; exact hA.row fun _ => rfl)
      (by rw [mg_k _ _ _ (by decide), mg_k _ _ _ (by decide)]; exact hA.row fun _ => rfl)
      (by rw [mg_k _ _ _ (by decide), mg_k _ _ _ (by decide)]; exact hA.row fun _ => rfl)
      (by rw [mg_j _ _ _ (by decide), mg_s, hv]; rfl)
      (by rw [mg_s, mg_k _ _ _ (by decide), e8]; rfl)
    exact ⟨N', e1, ((Fr.rf.set rfl).set rfl).trans e2, e3, e4⟩
  unfold f_m_findWhose
  simp only [ckp (show (0 : Int) ≤ (s : Int) ∧ (s : Int) < 40 by omega), Int.toNat_natCast, e4, e8]
  by_cases c : σ 8 s ≤ d
  · rw [ifp c]
    exact go _ (by rw [ifn (by omega)])
  · rw [ifn c]
    exact go _ (by rw [ifp (by omega)])
theorem l_R_lookAt (n : Nat) (d : Int) (mc : Nat) (hmc : mc ≤ 160) (ms mh md : Nat → Int) (hms : ∀ k, k < mc → 0 ≤ ms k ∧ ms k < 40) (hmd : ∀ i j, i ≤ j → j < mc → md i ≤ md j) : ∀ (r m f : Nat) (M : Mm), m + r = mc → r < f → M 1 16 = (mc : Int) → M 27 = ms → M 28 = mh → M 29 = md → (∀ s, s < 40 → M 25 s = (whC ms mh md s d m).1 ∧ M 26 s = (whC ms mh md s d m).2) →
    ∃ M', lp_R_lookAt_20 n f d m M = some (0, M') ∧ Fr cdC [25, 26] M M' ∧ ∀ s, s < 40 → M' 25 s = (whC ms mh md s d mc).1 ∧ M' 26 s = (whC ms mh md s d mc).2 := by
  intro r
  induction r with
  | zero =>
    intro m f M hm hf h16 h27 h28 h29 hR
    obtain ⟨f', rfl, hf'⟩ := f_pos hf
    have e : m = mc := by omega
    subst e
    refine ⟨M, ?_, Fr.rf, hR⟩
    show f_R_lookAt_20 n (lp_R_lookAt_20 n f') d m M = _
    unfold f_R_lookAt_20
    rw [ifp (by omega)]
  | succ r ih =>
    intro m f M hm hf h16 h27 h28 h29 hR
    obtain ⟨f', rfl, hf'⟩ := f_pos hf
    have hck : (0 : Int) ≤ (m : Int) ∧ (m : Int) < 160 := by omega
    have hb := hms m (by omega)
    show ∃ M', f_R_lookAt_20 n (lp_R_lookAt_20 n f') d m M = some (0, M') ∧ _
    unfold f_R_lookAt_20
    simp only [ckp hck, Int.toNat_natCast, h27, h28, h29]
    rw [ifn (by omega)]
    by_cases c : d < md m
    · rw [ifp c]
      refine ⟨M, rfl, Fr.rf, fun s hs => ?_⟩
      have e := whC_stop (ms := ms) (mh := mh) (md := md) (s := s) (d := d) (k := m) (r + 1) (fun j h1 h2 => by
        have := hmd m j h1 (by omega)
        omega)
      rw [show m + (r + 1) = mc from hm] at e
      rw [e]
      exact hR s hs
    · rw [ifn c, ckp (by omega)]
      have e27 : (mset M 25 (ms m).toNat (mh m)) 27 m = ms m := by rw [mg_k _ _ _ (by decide), h27]
      have e29 : (mset M 25 (ms m).toNat (mh m)) 29 m = md m := by rw [mg_k _ _ _ (by decide), h29]
      rw [e27, e29, ckp (by omega), w_succ (by omega)]
      obtain ⟨M', g1, g2, g3⟩ := ih (m + 1) f' (mset (mset M 25 (ms m).toNat (mh m)) 26 (ms m).toNat (md m)) (by omega) hf'
        (by rw [mg_k _ _ _ (by decide), mg_k _ _ _ (by decide)]; exact h16)
        (by rw [mg_k _ _ _ (by decide), mg_k _ _ _ (by decide)]; exact h27)
        (by rw [mg_k _ _ _ (by decide), mg_k _ _ _ (by decide)]; exact h28)
        (by rw [mg_k _ _ _ (by decide), mg_k _ _ _ (by decide)]; exact h29)
        (by
          intro s hs
          have e : whC ms mh md s d (m + 1) = if ms m = (s : Int) ∧ md m ≤ d then (mh m, md m) else whC ms mh md s d m := rfl
          by_cases q : s = (ms m).toNat
          · rw [ifp (by omega)] at e
            rw [e]
            simp [mg, q]
          · rw [ifn (by omega)] at e
            rw [e]
            simp [mg, q]
            exact hR s hs)
      exact ⟨M', g1, ((Fr.rf.set rfl).set rfl).trans g2, g3⟩
theorem e_R_lookAt {M σ : Mm} (n : Nat) (hn : 200 ≤ n) (hI : Inv σ) (hC : RelC M σ) (d : Int) : ∃ M', f_R_lookAt n d M = some (0, M') ∧ Fr cdC [25, 26] M M' ∧ ∀ s : Nat, (s : Int) < σ 0 3 → M' 25 s = ow σ s d ∧ M' 26 s = si σ s d := by
  have b1 := hI.2.1.1
  have b2 := hI.2.1.2.1
  obtain ⟨q1, q2, q3, q4, q5, q6, q7, q8, q9⟩ := hC.2.1
  unfold f_R_lookAt
  obtain ⟨M', g1, g2, g3⟩ := l_R_lookAt n d (σ 0 3 + σ 0 4).toNat (by omega) (M 27) (M 28) (M 29) (fun k hk => by have := q7 k (by omega); omega) (fun i j h1 h2 => q8 i j h1 (by omega)) (σ 0 3 + σ 0 4).toNat 0 n (mfil (mfil M 25 40 (-5)) 26 40 (-5)) (by omega) (by omega)
    (by rw [mfil_k _ _ _ (by decide), mfil_k _ _ _ (by decide), q2]; omega)
    (by rw [mfil_k _ _ _ (by decide), mfil_k _ _ _ (by decide)])
    (by rw [mfil_k _ _ _ (by decide), mfil_k _ _ _ (by decide)])
    (by rw [mfil_k _ _ _ (by decide), mfil_k _ _ _ (by decide)])
    (by
      intro s hs
      rw [mfil_k _ _ _ (show (25 : Nat) ≠ 26 by decide), mfil_in _ _ _ _ hs, mfil_in _ _ _ _ hs]
      exact ⟨rfl, rfl⟩)
  refine ⟨M', g1, (Fr.rowset (Fr.rowset Fr.rf (fun _ => rfl)) (fun _ => rfl)).trans g2, fun s hs => ?_⟩
  have e := g3 s (by omega)
  have e2 := q9 s hs d
  rw [e2] at e
  unfold ow si Wh
  rw [e.1, e.2]
  by_cases c : (whR (σ 4) (σ 8) (σ 9) (σ 10) (σ 11) s d (σ 0 4).toNat).1 < 0
  · rw [ifp c, ifp c, ifp c]; exact ⟨rfl, rfl⟩
  · rw [ifn c, ifn c, ifn c]; exact ⟨rfl, rfl⟩
/-- whose a share is: a holder's number, or below 0; since when: no later than the day -/
theorem whR_in {σ : Mm} (hI : Inv σ) {s : Nat} (hs : (s : Int) < σ 0 3) (d : Int) : ∀ k : Nat, (k : Int) ≤ σ 0 4 → ((whR (σ 4) (σ 8) (σ 9) (σ 10) (σ 11) s d k).1 = -1 ∨ (0 ≤ (whR (σ 4) (σ 8) (σ 9) (σ 10) (σ 11) s d k).1 ∧ (whR (σ 4) (σ 8) (σ 9) (σ 10) (σ 11) s d k).1 < σ 0 1 ∧ (whR (σ 4) (σ 8) (σ 9) (σ 10) (σ 11) s d k).2 ≤ d)) ∧ 0 ≤ (whR (σ 4) (σ 8) (σ 9) (σ 10) (σ 11) s d k).2 ∧ (whR (σ 4) (σ 8) (σ 9) (σ 10) (σ 11) s d k).2 ≤ 999 := by
  obtain ⟨p1, p2, p3, p4, p5, p6, p7⟩ := hI.2.1
  have b0 := hI.1.1
  have h4 := p4 s hs
  intro k
  induction k with
  | zero =>
    intro _
    show ((if d < σ 8 s then (-1 : Int) else σ 4 s) = -1 ∨ _ ∧ _ ∧ σ 8 s ≤ d) ∧ 0 ≤ σ 8 s ∧ σ 8 s ≤ 999
    by_cases c : d < σ 8 s
    · exact ⟨Or.inl (ifp c), by omega, by omega⟩
    · refine ⟨Or.inr ?_, by omega, by omega⟩
      show 0 ≤ (if d < σ 8 s then (-1 : Int) else σ 4 s) ∧ (if d < σ 8 s then (-1 : Int) else σ 4 s) < σ 0 1 ∧ _
      rw [ifn c]; omega
  | succ k ih =>
    intro hk
    have h5 := p5 k (by omega)
    unfold whR
    by_cases c : σ 9 k = (s : Int) ∧ σ 11 k ≤ d
    · rw [ifp c]; exact ⟨Or.inr ⟨h5.2.1.1, h5.2.1.2, c.2⟩, h5.2.2.1.1, by have := h5.2.2.1.2; show σ 11 k ≤ 999; omega⟩
    · rw [ifn c]; exact ih (by omega)
theorem ow_in {σ : Mm} (hI : Inv σ) {s : Nat} (hs : (s : Int) < σ 0 3) (d : Int) : (ow σ s d = -5 ∧ si σ s d = -5 ∧ (Wh σ s d).1 = -1) ∨ (0 ≤ ow σ s d ∧ ow σ s d < σ 0 1 ∧ ow σ s d = (Wh σ s d).1 ∧ si σ s d = (Wh σ s d).2 ∧ 0 ≤ si σ s d ∧ si σ s d ≤ d ∧ si σ s d ≤ 999) := by
  have h := whR_in hI hs d (σ 0 4).toNat (by have := hI.2.1.2.1; omega)
  unfold ow si Wh
  by_cases c : (whR (σ 4) (σ 8) (σ 9) (σ 10) (σ 11) s d (σ 0 4).toNat).1 < 0
  · rw [ifp c, ifp c]
    refine Or.inl ⟨rfl, rfl, ?_⟩
    omega
  · rw [ifn c, ifn c]
    refine Or.inr ?_
    omega
