/-! share(..). -/
theorem whC_no {ms mh md : Nat → Int} {s : Nat} {d : Int} : ∀ {k : Nat}, (∀ i, i < k → ms i ≠ (s : Int)) → whC ms mh md s d k = (-5, -5)
  | 0, _ => rfl
  | k + 1, h => by
    unfold whC
    rw [ifn (fun q => h k (by omega) q.1)]
    exact whC_no (fun i hi => h i (by omega))
theorem whR_no {s1 ca xs xt xd : Nat → Int} {s : Nat} {d : Int} : ∀ {k : Nat}, (∀ i, i < k → xs i ≠ (s : Int)) → whR s1 ca xs xt xd s d k = (if d < ca s then -1 else s1 s, ca s)
  | 0, _ => rfl
  | k + 1, h => by
    unfold whR
    rw [ifn (fun q => h k (by omega) q.1)]
    exact whR_no (fun i hi => h i (by omega))
def pf (sf pa : Nat → Int) (f : Int) : Nat → Int := fun s => if sf s = f then pa s else 0
theorem l_R_partsIn (n : Nat) (x : Int) (M : Mm) (sh : Nat) (hsh : sh ≤ 40) (h4 : M 1 4 = (sh : Int)) (hp : ∀ s : Nat, s < sh → 0 ≤ M 22 s ∧ M 22 s ≤ 12) : ∀ (r i f : Nat), i + r = sh → r < f → lp_R_partsIn_4 n f x (sm i (pf (M 21) (M 22) x)) i M = some (sm sh (pf (M 21) (M 22) x), M) := by
  intro r
  induction r with
  | zero =>
    intro i f hi hf
    obtain ⟨f', rfl, hf'⟩ := f_pos hf
    have e : i = sh := by omega
    subst e
    show f_R_partsIn_4 n (lp_R_partsIn_4 n f') x _ i M = _
    unfold f_R_partsIn_4
    rw [ifp (by omega)]
  | succ r ih =>
    intro i f hi hf
    obtain ⟨f', rfl, hf'⟩ := f_pos hf
    have hb : ∀ j, j < sh → 0 ≤ pf (M 21) (M 22) x j ∧ pf (M 21) (M 22) x j ≤ 12 := by
      intro j hj
      have := hp j hj
      unfold pf
      split <;> omega
    have b1 := sm_nn (g := pf (M 21) (M 22) x) (k := i) (fun j hj => (hb j (by omega)).1)
    have b2 := sm_ub (g := pf (M 21) (M 22) x) (k := i) (B := 12) (fun j hj => (hb j (by omega)).2)
    have b3 := hb i (by omega)
    have e : sm (i + 1) (pf (M 21) (M 22) x) = sm i (pf (M 21) (M 22) x) + pf (M 21) (M 22) x i := rfl
    have g := ih (i + 1) f' (by omega) hf'
    show f_R_partsIn_4 n (lp_R_partsIn_4 n f') x _ i M = _
    unfold f_R_partsIn_4 f_R_partsIn_33
    simp only [ckp (show (0 : Int) ≤ (i : Int) ∧ (i : Int) < 40 by omega), Int.toNat_natCast]
    rw [ifn (by omega)]
    by_cases c : M 21 i = x
    · rw [ifn (by simpa using c)]
      have e2 : pf (M 21) (M 22) x i = M 22 i := ifp c
      rw [e, e2] at g
      rw [e2] at b3
      rw [w_succ (by omega), w32_s (by omega) (by omega)]
      exact g
    · rw [ifp c]
      have e2 : pf (M 21) (M 22) x i = 0 := ifn c
      rw [e, e2] at g
      rw [w_succ (by omega), w32_s (by omega) (by omega)]
      exact g
theorem l_m_share (n : Nat) (x1 x2 x3 x4 : Int) (hx3 : 0 ≤ x3 ∧ x3 ≤ 12) (N : Mm) (sh : Nat) (hsh : sh ≤ 40) (h4 : N 0 3 = (sh : Int)) (hp : ∀ s : Nat, s < sh → 0 ≤ N 5 s ∧ N 5 s ≤ 12) : ∀ (r i f : Nat), i + r = sh → r < f → ∃ f', lp_m_share_50 n f x1 x2 x3 x4 (x3 + sm i (pf (N 3) (N 5) x1)) i N = f_m_share_50 n (lp_m_share_50 n f') x1 x2 x3 x4 (x3 + sm sh (pf (N 3) (N 5) x1)) sh N := by
  intro r
  induction r with
  | zero =>
    intro i f hi hf
    obtain ⟨f', rfl, hf'⟩ := f_pos hf
    have e : i = sh := by omega
    subst e
    exact ⟨f', rfl⟩
  | succ r ih =>
    intro i f hi hf
    obtain ⟨f', rfl, hf'⟩ := f_pos hf
    have hb : ∀ j, j < sh → 0 ≤ pf (N 3) (N 5) x1 j ∧ pf (N 3) (N 5) x1 j ≤ 12 := by
      intro j hj
      have := hp j hj
      unfold pf
      split <;> omega
    have b1 := sm_nn (g := pf (N 3) (N 5) x1) (k := i) (fun j hj => (hb j (by omega)).1)
    have b2 := sm_ub (g := pf (N 3) (N 5) x1) (k := i) (B := 12) (fun j hj => (hb j (by omega)).2)
    have b3 := hb i (by omega)
    have e : sm (i + 1) (pf (N 3) (N 5) x1) = sm i (pf (N 3) (N 5) x1) + pf (N 3) (N 5) x1 i := rfl
    obtain ⟨f2, g⟩ := ih (i + 1) f' (by omega) hf'
    refine ⟨f2, ?_⟩
    show f_m_share_50 n (lp_m_share_50 n f') x1 x2 x3 x4 _ i N = _
    rw [← g]
    conv => lhs; unfold f_m_share_50
    unfold f_m_share_83
    simp only [ckp (show (0 : Int) ≤ (i : Int) ∧ (i : Int) < 40 by omega), Int.toNat_natCast]
    rw [ifn (by omega)]
    by_cases c : N 3 i = x1
    · rw [ifn (by simpa using c)]
      have e2 : pf (N 3) (N 5) x1 i = N 5 i := ifp c
      rw [e2] at b3 e
      rw [w_succ (by omega), w32_s (by omega) (by omega), e, Int.add_assoc]
    · rw [ifp c]
      have e2 : pf (N 3) (N 5) x1 i = 0 := ifn c
      rw [e2] at e
      rw [w_succ (by omega), w32_s (by omega) (by omega), e, Int.add_assoc]
theorem q_share {M N : Mm} (n : Nat) (hn : 200 ≤ n) (x h p v : Int) (hJ : J M N) : Sim (f_W_share n x h p v M) (f_m_share n x h p v N) := by
  have hJ0 := hJ
  obtain ⟨σ, hI, hA, hC⟩ := hJ
  have a1 : N 0 1 = σ 0 1 := hA 0 1 rfl
  have a3 : N 0 3 = σ 0 3 := hA 0 3 rfl
  have aK : N 1 = σ 1 := hA.row fun _ => rfl
  obtain ⟨h1, h2, h3, h4, h5⟩ := id hI
  obtain ⟨r1, r2, r3, r4, r5, r6⟩ := id hC
  obtain ⟨p1, p2, p3, p4, p5, p6, p7⟩ := h2
  obtain ⟨q1, q2, q3, q4, q5, q6, q7, q8, q9⟩ := r2
  have bh := h1.2.1
  have bt := h1.1
  have m11 := r1.2.1
  have m17 := r1.2.2.2.2.2.1
  unfold f_W_share f_m_share
  simp only [e_R_isFirm n M x (by rw [m11]; exact bh.2), e_m_isFirm n N x (by rw [a1]; exact bh), e_R_isHolder, e_m_isHolder n N h (by rw [a1]; exact bh), e_m_in, bnd_mk, a1, m11, m17, aK]
  by_cases c : 0 ≤ x ∧ x < σ 0 1 ∧ σ 1 x.toNat = 1
  · by_cases c2 : 0 ≤ h ∧ h < σ 0 1
    · by_cases c3 : 0 ≤ p ∧ p ≤ 12
      · by_cases c4 : 0 ≤ v ∧ v ≤ 99
        · simp only [ifp c, ifp c2, ifp c3, ifp c4, i1, n1, ifn (show ¬ p < 0 by omega), ifn (show ¬ 12 < p by omega), ifn (show ¬ v < 0 by omega), ifp c4.2]
          have a5 : N 5 = σ 5 := hA.row fun _ => rfl
          have aF : N 3 = σ 3 := hA.row fun _ => rfl
          have eC := l_R_partsIn n x M (σ 0 3).toNat (by omega) (by omega) (fun s hs => by rw [q4]; exact (p4 s (by omega)).2.2.1) (σ 0 3).toNat 0 n (by omega) (by omega)
          obtain ⟨f', eR⟩ := l_m_share n x h p v c3 N (σ 0 3).toNat (by omega) (by omega) (fun s hs => by rw [a5]; exact (p4 s (by omega)).2.2.1) (σ 0 3).toNat 0 n (by omega) (by omega)
          have eC2 : f_R_partsIn n x M = some (sm (σ 0 3).toNat (pf (σ 3) (σ 5) x), M) := by
            unfold f_R_partsIn
            rw [q3, q4] at eC
            exact eC
          have eR2 : lp_m_share_50 n n x h p v p 0 N = f_m_share_50 n (lp_m_share_50 n f') x h p v (p + sm (σ 0 3).toNat (pf (σ 3) (σ 5) x)) (σ 0 3).toNat N := by
            rw [aF, a5, show p + sm 0 (pf (σ 3) (σ 5) x) = p from Int.add_zero p] at eR
            exact eR
          have b3 : sm (σ 0 3).toNat (pf (σ 3) (σ 5) x) ≤ 12 := p7 x
          have b4 : 0 ≤ sm (σ 0 3).toNat (pf (σ 3) (σ 5) x) := sm_nn (fun s hs => by
            have := (p4 s (by omega)).2.2.1.1
            unfold pf; split
            · exact this
            · exact Int.le_refl _)
          rw [eC2, eR2, bnd_mk]
          unfold f_m_share_50
          rw [w32_s (by omega) (by omega), ifp (show N 0 3 ≤ (((σ 0 3).toNat : Nat) : Int) by omega), Int.add_comm p]
          by_cases c5 : sm (σ 0 3).toNat (pf (σ 3) (σ 5) x) + p ≤ 12
          · rw [ifp c5, ifp c5]
            unfold f_R_issue
            have a0 : N 0 0 = σ 0 0 := hA 0 0 rfl
            have m10 : M 1 0 = σ 0 0 := r1.1
            simp only [mg_k _ _ _ (show (0 : Nat) ≠ 3 by decide), mg_k _ _ _ (show (0 : Nat) ≠ 4 by decide), mg_k _ _ _ (show (0 : Nat) ≠ 5 by decide), mg_k _ _ _ (show (0 : Nat) ≠ 6 by decide), mg_k _ _ _ (show (0 : Nat) ≠ 8 by decide), mg_k _ _ _ (show (1 : Nat) ≠ 21 by decide), mg_k _ _ _ (show (1 : Nat) ≠ 22 by decide), mg_k _ _ _ (show (1 : Nat) ≠ 23 by decide), a3, a0, q1]
            by_cases c6 : σ 0 3 < 40
            · rw [ifp c6, ifp (show σ 0 3 ≠ 40 by omega)]
              simp only [ckp (show 0 ≤ σ 0 3 ∧ σ 0 3 < 40 by omega)]
              rw [w32_s (x := σ 0 3 + 1) (by omega) (by omega)]
              have k16 : mset (mset (mset (mset M 21 (σ 0 3).toNat x) 22 (σ 0 3).toNat p) 23 (σ 0 3).toNat v) 1 4 (σ 0 3 + 1) 1 16 = σ 0 3 + σ 0 4 := by
                rw [mg_j _ _ _ (by decide), mg_k _ _ _ (by decide), mg_k _ _ _ (by decide), mg_k _ _ _ (by decide), q2]
              have k10 : mset (mset (mset (mset M 21 (σ 0 3).toNat x) 22 (σ 0 3).toNat p) 23 (σ 0 3).toNat v) 1 4 (σ 0 3 + 1) 1 0 = σ 0 0 := by
                rw [mg_j _ _ _ (by decide), mg_k _ _ _ (by decide), mg_k _ _ _ (by decide), mg_k _ _ _ (by decide), m10]
              rw [e_R_move n _ _ _ (by rw [k16]; omega), k16, k10, bnd_mk, bnd_mk]
              have es : (σ 0 3 + 1 + σ 0 4).toNat = (σ 0 3 + σ 0 4).toNat + 1 := by omega
              have es3 : (σ 0 3 + 1).toNat = (σ 0 3).toNat + 1 := by omega
              refine Sim.mk (r := σ 0 3) rfl ?_ (N' := mset (mset (mset (mset (mset (mset N 3 (σ 0 3).toNat x) 4 (σ 0 3).toNat h) 5 (σ 0 3).toNat p) 6 (σ 0 3).toNat v) 8 (σ 0 3).toNat (σ 0 0)) 0 3 (σ 0 3 + 1)) ⟨mset (mset (mset (mset (mset (mset σ 3 (σ 0 3).toNat x) 4 (σ 0 3).toNat h) 5 (σ 0 3).toNat p) 6 (σ 0 3).toNat v) 8 (σ 0 3).toNat (σ 0 0)) 0 3 (σ 0 3 + 1), ⟨h1, ⟨⟨?_, ?_⟩, p2, p3, ?_, ?_, p6, ?_⟩, h3, h4, h5⟩, (((((hA.set 3 _ _).set 4 _ _).set 5 _ _).set 6 _ _).set 8 _ _).set 0 3 _, r1, ⟨rfl, ?_, ?_, ?_, ?_, q6, ?_, ?_, ?_⟩, r3, r4, r5, r6⟩
              · rw [mg_s, w32_s (by omega) (by omega)]
                congr 2; omega
              · show 0 ≤ σ 0 3 + 1; omega
              · show σ 0 3 + 1 ≤ 40; omega
              · intro s hs
                replace hs : (s : Int) < σ 0 3 + 1 := hs
                show (0 ≤ mset σ 3 (σ 0 3).toNat x 3 s ∧ mset σ 3 (σ 0 3).toNat x 3 s < σ 0 1 ∧ σ 1 (mset σ 3 (σ 0 3).toNat x 3 s).toNat = 1) ∧ (0 ≤ mset σ 4 (σ 0 3).toNat h 4 s ∧ mset σ 4 (σ 0 3).toNat h 4 s < σ 0 1) ∧ (0 ≤ mset σ 5 (σ 0 3).toNat p 5 s ∧ mset σ 5 (σ 0 3).toNat p 5 s ≤ 12) ∧ (0 ≤ mset σ 6 (σ 0 3).toNat v 6 s ∧ mset σ 6 (σ 0 3).toNat v 6 s ≤ 99) ∧ (0 ≤ mset σ 8 (σ 0 3).toNat (σ 0 0) 8 s ∧ mset σ 8 (σ 0 3).toNat (σ 0 0) 8 s ≤ σ 0 0)
                by_cases e : s = (σ 0 3).toNat
                · subst e
                  rw [mg_s, mg_s, mg_s, mg_s, mg_s]
                  exact ⟨c, c2, c3, c4, bt.1, Int.le_refl _⟩
                · rw [mg_j _ _ _ e, mg_j _ _ _ e, mg_j _ _ _ e, mg_j _ _ _ e, mg_j _ _ _ e]
                  exact p4 s (by omega)
              · intro k hk
                have := p5 k hk
                show (0 ≤ σ 9 k ∧ σ 9 k < σ 0 3 + 1) ∧ (0 ≤ σ 10 k ∧ σ 10 k < σ 0 1) ∧ (0 ≤ σ 11 k ∧ σ 11 k ≤ σ 0 0) ∧ mset σ 8 (σ 0 3).toNat (σ 0 0) 8 (σ 9 k).toNat ≤ σ 11 k
                rw [mg_j _ _ _ (by omega)]
                exact ⟨⟨this.1.1, by omega⟩, this.2⟩
              · intro f
                show sm (σ 0 3 + 1).toNat (fun s => if mset σ 3 (σ 0 3).toNat x 3 s = f then mset σ 5 (σ 0 3).toNat p 5 s else 0) ≤ 12
                rw [es3]
                show sm (σ 0 3).toNat (fun s => if mset σ 3 (σ 0 3).toNat x 3 s = f then mset σ 5 (σ 0 3).toNat p 5 s else 0) + (if mset σ 3 (σ 0 3).toNat x 3 (σ 0 3).toNat = f then mset σ 5 (σ 0 3).toNat p 5 (σ 0 3).toNat else 0) ≤ 12
                rw [mg_s, mg_s, sm_congr (g' := fun s => if σ 3 s = f then σ 5 s else 0) (fun i hi => by
                  show (if mset σ 3 (σ 0 3).toNat x 3 i = f then mset σ 5 (σ 0 3).toNat p 5 i else 0) = _
                  rw [mg_j _ _ _ (by omega), mg_j _ _ _ (by omega)])]
                by_cases e : x = f
                · subst e
                  rw [ifp rfl]; exact c5
                · rw [ifn e]
                  have := p7 f
                  omega
              · show σ 0 3 + σ 0 4 + 1 = σ 0 3 + 1 + σ 0 4; omega
              · show mset M 21 (σ 0 3).toNat x 21 = mset σ 3 (σ 0 3).toNat x 3
                rw [ms_row, ms_row, q3]
              · show mset M 22 (σ 0 3).toNat p 22 = mset σ 5 (σ 0 3).toNat p 5
                rw [ms_row, ms_row, q4]
              · show mset M 23 (σ 0 3).toNat v 23 = mset σ 6 (σ 0 3).toNat v 6
                rw [ms_row, ms_row, q5]
              · intro k hk
                replace hk : (k : Int) < σ 0 3 + 1 + σ 0 4 := hk
                show (0 ≤ mset M 27 (σ 0 3 + σ 0 4).toNat (σ 0 3) 27 k ∧ mset M 27 (σ 0 3 + σ 0 4).toNat (σ 0 3) 27 k < σ 0 3 + 1) ∧ (0 ≤ mset M 29 (σ 0 3 + σ 0 4).toNat (σ 0 0) 29 k ∧ mset M 29 (σ 0 3 + σ 0 4).toNat (σ 0 0) 29 k ≤ σ 0 0)
                by_cases e : k = (σ 0 3 + σ 0 4).toNat
                · subst e
                  rw [mg_s, mg_s]
                  exact ⟨⟨p1.1, by omega⟩, bt.1, Int.le_refl _⟩
                · rw [mg_j _ _ _ e, mg_j _ _ _ e]
                  have := q7 k (by omega)
                  exact ⟨⟨this.1.1, by omega⟩, this.2⟩
              · intro i j hij hj
                replace hj : (j : Int) < σ 0 3 + 1 + σ 0 4 := hj
                show mset M 29 (σ 0 3 + σ 0 4).toNat (σ 0 0) 29 i ≤ mset M 29 (σ 0 3 + σ 0 4).toNat (σ 0 0) 29 j
                by_cases e : j = (σ 0 3 + σ 0 4).toNat
                · subst e
                  rw [mg_s]
                  by_cases e2 : i = (σ 0 3 + σ 0 4).toNat
                  · subst e2; rw [mg_s]; exact Int.le_refl _
                  · rw [mg_j _ _ _ e2]; exact (q7 i (by omega)).2.2
                · rw [mg_j _ _ _ e, mg_j _ _ _ (by omega)]
                  exact q8 i j hij (by omega)
              · intro s' hs' d
                replace hs' : (s' : Int) < σ 0 3 + 1 := hs'
                show whC (mset M 27 (σ 0 3 + σ 0 4).toNat (σ 0 3) 27) (mset M 28 (σ 0 3 + σ 0 4).toNat h 28) (mset M 29 (σ 0 3 + σ 0 4).toNat (σ 0 0) 29) s' d (σ 0 3 + 1 + σ 0 4).toNat = if (whR (mset σ 4 (σ 0 3).toNat h 4) (mset σ 8 (σ 0 3).toNat (σ 0 0) 8) (σ 9) (σ 10) (σ 11) s' d (σ 0 4).toNat).1 < 0 then (-5, -5) else whR (mset σ 4 (σ 0 3).toNat h 4) (mset σ 8 (σ 0 3).toNat (σ 0 0) 8) (σ 9) (σ 10) (σ 11) s' d (σ 0 4).toNat
                rw [es]
                have u1 := whC_congr (ms := mset M 27 (σ 0 3 + σ 0 4).toNat (σ 0 3) 27) (mh := mset M 28 (σ 0 3 + σ 0 4).toNat h 28) (md := mset M 29 (σ 0 3 + σ 0 4).toNat (σ 0 0) 29) (ms' := M 27) (mh' := M 28) (md' := M 29) (s := s') (d := d) (k := (σ 0 3 + σ 0 4).toNat) (fun i hi => ⟨mg_j _ _ _ (by omega), mg_j _ _ _ (by omega), mg_j _ _ _ (by omega)⟩)
                unfold whC
                rw [u1]
                simp only [mg_s]
                by_cases e : (s' : Int) = σ 0 3
                · rw [whC_no (fun i hi => by have := q7 i (by omega); omega), whR_no (fun i hi => by have := p5 i (by omega); omega)]
                  have e4 : s' = (σ 0 3).toNat := by omega
                  rw [e4, mg_s, mg_s]
                  by_cases e5 : σ 0 0 ≤ d
                  · rw [ifp ⟨by omega, e5⟩]
                    simp only [ifn (show ¬ d < σ 0 0 by omega), ifn (show ¬ h < 0 by omega)]
                  · rw [ifn (fun q => e5 q.2)]
                    simp only [ifp (show d < σ 0 0 by omega), ifp (show (-1 : Int) < 0 by decide)]
                · rw [ifn (by omega)]
                  rw [whR_congr (s1' := σ 4) (ca' := σ 8) (xs' := σ 9) (xt' := σ 10) (xd' := σ 11) ⟨mg_j _ _ _ (by omega), mg_j _ _ _ (by omega)⟩ (fun i hi => ⟨rfl, rfl, rfl⟩)]
                  exact q9 s' (by omega) d
            · rw [ifn c6, ifn (show ¬ σ 0 3 ≠ 40 by omega), bnd_mk]; exact Sim.same hJ0 _
          · rw [ifn c5, ifn c5]; exact Sim.same hJ0 _
        · simp only [ifp c, ifp c2, ifp c3, ifn c4, i1, n1, n0, ifn (show ¬ p < 0 by omega), ifn (show ¬ 12 < p by omega)]
          by_cases c5 : v < 0
          · rw [ifp c5]; exact Sim.same hJ0 _
          · rw [ifn c5, ifn (show ¬ v ≤ 99 by omega)]; exact Sim.same hJ0 _
      · simp only [ifp c, ifp c2, ifn c3, i1, i0, n1]
        by_cases c5 : p < 0
        · rw [ifp c5]; exact Sim.same hJ0 _
        · rw [ifn c5, ifp (show 12 < p by omega)]; exact Sim.same hJ0 _
    · simp only [ifp c, ifn c2, i1, n0]; exact Sim.same hJ0 _
  · simp only [ifn c, i0]; exact Sim.same hJ0 _
