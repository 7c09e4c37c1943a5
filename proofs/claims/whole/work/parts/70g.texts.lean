/-! The reference reads a text: its tables. -/
def GOL : List Nat := [17, 18, 19, 20, 21, 1028, 1029, 1030, 1031, 1032, 1033, 1036, 1037, 1038]
theorem cAt_l {l : List Cl} {c : Cl} {i : Nat} (h : i < l.length) : cAt (l ++ [c]) i = cAt l i := by
  unfold cAt
  rw [List.getElem?_append_left h]
theorem cAt_e {l : List Cl} {c : Cl} : cAt (l ++ [c]) l.length = c := by
  unfold cAt
  rw [List.getElem?_append_right (Nat.le_refl _), Nat.sub_self]
  rfl
theorem lw_cg {l l' : List Cl} {w : Nat} : ∀ {k : Nat}, (∀ i, i < k → cAt l' i = cAt l i) → lw l' w k = lw l w k
  | 0, _ => rfl
  | k + 1, h => by
    show (if (cAt l' k).1 = w then (k : Int) else lw l' w k) = (if (cAt l k).1 = w then (k : Int) else lw l w k)
    rw [h k (by omega), lw_cg (k := k) fun i hi => h i (by omega)]
theorem lw_b {l : List Cl} {w : Nat} : ∀ {k : Nat}, -1 ≤ lw l w k ∧ lw l w k < k
  | 0 => by show (-1 : Int) ≤ -1 ∧ (-1 : Int) < ((0 : Nat) : Int); omega
  | k + 1 => by
    have := lw_b (l := l) (w := w) (k := k)
    show -1 ≤ (if (cAt l k).1 = w then (k : Int) else lw l w k) ∧ (if (cAt l k).1 = w then (k : Int) else lw l w k) < ((k + 1 : Nat) : Int)
    split <;> omega
theorem lw_s (l : List Cl) (c : Cl) (w : Nat) : lw (l ++ [c]) w (l ++ [c]).length = if c.1 = w then (l.length : Int) else lw l w l.length := by
  have e : (l ++ [c]).length = l.length + 1 := by simp
  rw [e]
  show (if (cAt (l ++ [c]) l.length).1 = w then (l.length : Int) else lw (l ++ [c]) w l.length) = _
  rw [cAt_e, lw_cg fun i hi => cAt_l hi]
section
variable {t : Nat → Int} {m n : Nat}
def GOD : List Nat := [17, 18, 19, 20, 21, 1028, 1031, 1032, 1033, 1036, 1037, 1038]
/-- the reference's tables tell the clauses -/
def TBc (N : Mm) (l : List Cl) : Prop := (∀ w : Nat, w < 5 → N 17 w = lw l w l.length) ∧ (∀ w : Nat, w < 4 → 0 ≤ lw l w l.length → N 18 w = (cAt l (lw l w l.length).toNat).2.1 ∧ (w = 0 ∨ w = 2 → N 19 w = (cAt l (lw l w l.length).toNat).2.2.1)) ∧ (0 ≤ lw l 4 l.length → N 0 28 = if evB (N 16) (cAt l (lw l 4 l.length).toNat).2.2.2 = true then 1 else 0)
theorem TBc_s {N N' : Mm} {l : List Cl} {c : Cl} (h : TBc N l) (hc : c.1 < 5) (hr : CLr N N' (l.length : Int) c) (h16 : N' 16 = N 16) : TBc N' (l ++ [c]) := by
  obtain ⟨r1, r2, r3, r4, r5⟩ := hr
  refine ⟨fun w hw => ?_, fun w hw h0 => ?_, fun h0 => ?_⟩
  · rw [lw_s]
    by_cases q : c.1 = w
    · rw [ifp q, ← q]; exact r2
    · rw [ifn q, r1 w (fun z => q z.symm)]; exact h.1 w hw
  · rw [lw_s] at h0 ⊢
    by_cases q : c.1 = w
    · rw [ifp q, Int.toNat_natCast, cAt_e, ← q]
      have := r4 (by omega)
      exact ⟨this.1, this.2.1⟩
    · rw [ifn q] at h0 ⊢
      have hb := lw_b (l := l) (w := w) (k := l.length)
      rw [cAt_l (show (lw l w l.length).toNat < l.length by omega), (r3 w (fun z => q z.symm)).1, (r3 w (fun z => q z.symm)).2]
      exact h.2.1 w hw h0
  · rw [lw_s] at h0 ⊢
    by_cases q : c.1 = 4
    · rw [ifp q, Int.toNat_natCast, cAt_e, h16]
      exact r5 q
    · rw [ifn q] at h0 ⊢
      have hb := lw_b (l := l) (w := 4) (k := l.length)
      rw [cAt_l (show (lw l 4 l.length).toNat < l.length by omega), (r4 q).2.2, h16]
      exact h.2.2 h0
theorem TBc_fr {N N' : Mm} {l : List Cl} (h : TBc N l) (f : Fr cdR [1031, 1032] N N') : TBc N' l := by
  unfold TBc at h ⊢
  rw [f.row (k := 17) (fun _ => rfl), f.row (k := 18) (fun _ => rfl), f.row (k := 19) (fun _ => rfl), f.row (k := 16) (fun _ => rfl), f 0 28 rfl]
  exact h
theorem l_goes48 (hn : 3000 ≤ n) : ∀ (K : Nat) (p : Nat) (l0 : List Cl) (N : Mm) (g : Nat), l0.length + K = 6 → 1 ≤ K → K < g → RDt N t m p → N 0 32 = (l0.length : Int) → TBc N l0 → ∀ q r, sGo t m K p = (q, r) → (r = none → ∃ N', lp_m_goes_48 n g N = some (0, N') ∧ RDt N' t m q ∧ Fr cdR GOD N N') ∧ ∀ l, r = some l → ∃ N', lp_m_goes_48 n g N = some (1, N') ∧ RDt N' t m q ∧ Fr cdR GOD N N' ∧ TBc N' (l0 ++ l) ∧ (l0 ++ l).length ≤ 6
  | 0, _, _, _, _, _, h, _, _, _, _ => absurd h (by decide)
  | K + 1, p, l0, N, g, hK, _, hg, hR, h32, hT => by
    intro q r hs
    obtain ⟨g', rfl, hg'⟩ := f_pos (show 0 < g by omega)
    have hs' : (match sClause t m p with
      | (q, none) => (q, none)
      | (q, some c) => if m ≤ q then (q, some [c]) else if K = 0 then (q, none) else
        if nx t m q = 59 then match sGo t m K (q + 1) with
          | (q', none) => (q', none)
          | (q', some l) => (q', some (c :: l))
        else (q, none)) = (q, r) := hs
    have e : lp_m_goes_48 n (g' + 1) N = f_m_goes_48 n (lp_m_goes_48 n g') N := rfl
    rw [e]
    unfold f_m_goes_48
    rcases hh : sClause t m p with ⟨q1, r1⟩
    rw [hh] at hs'
    have C := e_m_takesClause hn hR h32 q1 r1 hh
    cases r1 with
    | none =>
      have hs2 : (q1, (none : Option (List Cl))) = (q, r) := hs'
      cases hs2
      obtain ⟨N1, k1, k2, k3⟩ := C.1 rfl
      rw [k1, bnd_mk, ifn (show ¬ (0 : Int) ≠ 0 by decide)]
      exact ⟨fun _ => ⟨N1, rfl, k2, k3.mono (by decide)⟩, fun l hl => by cases hl⟩
    | some c =>
      obtain ⟨N1, k1, k2, k3, k4, k5⟩ := C.2 c rfl
      have hs2 : (if m ≤ q1 then (q1, some [c]) else if K = 0 then (q1, none) else
        if nx t m q1 = 59 then match sGo t m K (q1 + 1) with
          | (q', none) => (q', none)
          | (q', some l) => (q', some (c :: l))
        else (q1, none)) = (q, r) := hs'
      have h16 : N1 16 = N 16 := k3.row (k := 16) (fun _ => rfl)
      have hT1 := TBc_s hT k4 k5 h16
      have hi := k2.in.1
      have m30 : N1 0 30 = (m : Int) := by
        obtain ⟨b, _, _, a2, _⟩ := k2
        exact a2
      have hlen : (l0 ++ [c]).length = l0.length + 1 := by simp
      rw [k1, bnd_mk, ifp (show (1 : Int) ≠ 0 by decide), (k3 0 32 rfl).trans h32, w_succ (by omega)]
      have fr : Fr cdR [1032] N1 (mset N1 0 32 ((l0.length + 1 : Nat) : Int)) := Fr.rf.set rfl
      have hR2 : RDt (mset N1 0 32 ((l0.length + 1 : Nat) : Int)) t m q1 := k2.fr fr rfl rfl rfl rfl
      have hT2 := TBc_fr hT1 (fr.mono (by decide))
      have b31 : mset N1 0 32 ((l0.length + 1 : Nat) : Int) 0 31 = (q1 : Int) := hR2.in.2.1
      have b30 : mset N1 0 32 ((l0.length + 1 : Nat) : Int) 0 30 = (m : Int) := by rw [mg_j _ _ _ (by decide)]; exact m30
      have b32 : mset N1 0 32 ((l0.length + 1 : Nat) : Int) 0 32 = ((l0.length + 1 : Nat) : Int) := mg_s _ _ _ _
      rw [b31, b30, b32]
      have f2 : Fr cdR GOD N (mset N1 0 32 ((l0.length + 1 : Nat) : Int)) := (k3.mono (by decide)).trans (fr.mono (by decide))
      by_cases c1 : m ≤ q1
      · rw [ifp c1] at hs2
        cases hs2
        rw [ifn (show ¬ (q : Int) ≠ (m : Int) by omega)]
        refine ⟨fun h => (by cases h), fun l hl => ?_⟩
        cases hl
        exact ⟨_, rfl, hR2, f2, hT2, by rw [hlen]; omega⟩
      · rw [ifn c1] at hs2
        rw [ifp (show (q1 : Int) ≠ (m : Int) by omega)]
        by_cases c2 : K = 0
        · rw [ifp c2] at hs2
          cases hs2
          rw [ifp (by omega)]
          exact ⟨fun _ => ⟨_, rfl, hR2, f2⟩, fun l hl => by cases hl⟩
        · rw [ifn c2] at hs2
          rw [ifn (by omega), e_m_takes n hR2 (by decide)]
          by_cases c3 : nx t m q1 = 59
          · rw [ifp c3] at hs2
            rw [ifp c3, bnd_mk, ifp (show (1 : Int) ≠ 0 by decide)]
            have hR3 := hR2.adv (q := q1 + 1) (by omega)
            have fr3 : Fr cdR [1031, 1032] (mset N1 0 32 ((l0.length + 1 : Nat) : Int)) (mset (mset N1 0 32 ((l0.length + 1 : Nat) : Int)) 0 31 ((q1 + 1 : Nat) : Int)) := Fr.rf.set rfl
            have hT3 := TBc_fr hT2 fr3
            rcases hh2 : sGo t m K (q1 + 1) with ⟨q2, r2⟩
            rw [hh2] at hs2
            have I := l_goes48 hn K (q1 + 1) (l0 ++ [c]) _ g' (by rw [hlen]; omega) (by omega) (by omega) hR3 (by rw [hlen, mg_j _ _ _ (by decide), mg_s]) hT3 q2 r2 hh2
            cases r2 with
            | none =>
              have hs3 : (q2, (none : Option (List Cl))) = (q, r) := hs2
              cases hs3
              obtain ⟨N4, l1, l2, l3⟩ := I.1 rfl
              exact ⟨fun _ => ⟨N4, l1, l2, (f2.trans (fr3.mono (by decide))).trans l3⟩, fun l hl => by cases hl⟩
            | some l2 =>
              have hs3 : (q2, some (c :: l2)) = (q, r) := hs2
              cases hs3
              refine ⟨fun h => (by cases h), fun l hl => ?_⟩
              cases hl
              obtain ⟨N4, u1, u2, u3, u4, u5⟩ := I.2 l2 rfl
              have ea : (l0 ++ [c]) ++ l2 = l0 ++ c :: l2 := by simp
              rw [ea] at u4 u5
              exact ⟨N4, u1, u2, (f2.trans (fr3.mono (by decide))).trans u3, u4, u5⟩
          · rw [ifn c3] at hs2
            cases hs2
            rw [ifn c3, bnd_mk, ifn (show ¬ (0 : Int) ≠ 0 by decide)]
            exact ⟨fun _ => ⟨_, rfl, hR2, f2⟩, fun l hl => by cases hl⟩
/-- any of the twenty-one texts -/
theorem e_m_goesG (hn : 3000 ≤ n) {N : Mm} {k : Nat} (hk : k ≤ 20) (hm : N 15 k = (m : Int)) (hm2 : m ≤ 100) (ht : ∀ j, -128 ≤ N 14 j ∧ N 14 j ≤ 127) : ∀ q r, sGo (tx0 (N 14) k) m 6 0 = (q, r) → (r = none → ∃ N', f_m_goes n k N = some (0, N') ∧ N' 0 31 = (q : Int) ∧ Fr cdR (1029 :: 1030 :: GOD) N N') ∧ ∀ l, r = some l → ∃ N', f_m_goes n k N = some (1, N') ∧ Fr cdR (1029 :: 1030 :: GOD) N N' ∧ TBc N' l ∧ l.length ≤ 6 := by
  intro q r hs
  have f4 : Fr cdR (1029 :: 1030 :: GOD) N (mset (mset (mset (mset N 0 29 ((100 * k : Nat) : Int)) 0 30 (m : Int)) 0 31 0) 0 32 0) := (((Fr.rf.set rfl).set rfl).set rfl).set rfl
  have hR4 : RDt (mset (mset (mset (mset N 0 29 ((100 * k : Nat) : Int)) 0 30 (m : Int)) 0 31 0) 0 32 0) (tx0 (N 14) k) m 0 := by
    refine ⟨100 * k, ⟨by omega, hm2, Nat.zero_le _⟩, ?_, ?_, ?_, fun j hj => ?_, fun j => ht _⟩
    · rw [mg_j _ _ _ (by decide), mg_j _ _ _ (by decide), mg_j _ _ _ (by decide), mg_s]
    · rw [mg_j _ _ _ (by decide), mg_j _ _ _ (by decide), mg_s]
    · rw [mg_j _ _ _ (by decide), mg_s]; rfl
    · rw [mg_k _ _ _ (by decide), mg_k _ _ _ (by decide), mg_k _ _ _ (by decide), mg_k _ _ _ (by decide)]; rfl
  have h32 : mset (mset (mset (mset N 0 29 ((100 * k : Nat) : Int)) 0 30 (m : Int)) 0 31 0) 0 32 0 0 32 = 0 := mg_s _ _ _ _
  generalize hM : mset (mset (mset (mset N 0 29 ((100 * k : Nat) : Int)) 0 30 (m : Int)) 0 31 0) 0 32 0 = M at f4 hR4 h32
  have go : ∀ (r' i g : Nat) (M : Mm), i + r' = 5 → r' < g → (∀ w, w < i → M 17 w = -1) → ∃ M', lp_m_goes_30 n g i M = lp_m_goes_48 n n M' ∧ Fr cdR [17] M M' ∧ ∀ w, w < 5 → M' 17 w = -1 := by
    intro r'
    induction r' with
    | zero =>
      intro i g M hi hg hw
      obtain ⟨g', rfl, _⟩ := f_pos hg
      show ∃ M', f_m_goes_30 n (lp_m_goes_30 n g') i M = _ ∧ _
      unfold f_m_goes_30
      rw [ifp (by omega)]
      exact ⟨M, rfl, Fr.rf, fun w h => hw w (by omega)⟩
    | succ r' ih =>
      intro i g M hi hg hw
      obtain ⟨g', rfl, hg'⟩ := f_pos hg
      show ∃ M', f_m_goes_30 n (lp_m_goes_30 n g') i M = _ ∧ _
      unfold f_m_goes_30
      rw [ifn (by omega), ckp (by omega), w_succ (by omega), Int.toNat_natCast]
      have fr : Fr cdR [17] M (mset M 17 i (-1)) := Fr.rf.set rfl
      obtain ⟨M2, k1, k2, k3⟩ := ih (i + 1) g' (mset M 17 i (-1)) (by omega) hg' (fun w h => by
        by_cases z : w = i
        · rw [z, mg_s]
        · rw [mg_j _ _ _ z]; exact hw w (by omega))
      exact ⟨M2, k1, fr.trans k2, k3⟩
  obtain ⟨M1, g1, g2, g3⟩ := go 5 0 n M rfl (by omega) (fun w h => absurd h (Nat.not_lt_zero w))
  have g1' : lp_m_goes_30 n n 0 M = _ := g1
  have e : f_m_goes n k N = lp_m_goes_48 n n M1 := by
    unfold f_m_goes
    rw [ckp (by omega), Int.toNat_natCast, w32_s (by omega) (by omega), mg_k _ _ _ (show (15 : Nat) ≠ 0 by decide), hm, show (100 : Int) * (k : Int) = ((100 * k : Nat) : Int) by omega, hM, g1']
  have hR1 : RDt M1 (tx0 (N 14) k) m 0 := hR4.fr g2 rfl rfl rfl rfl
  have hT : TBc M1 [] := ⟨fun w hw => g3 w hw, fun w hw h => absurd h (by show ¬ (0 : Int) ≤ -1; decide), fun h => absurd h (by show ¬ (0 : Int) ≤ -1; decide)⟩
  have I := l_goes48 hn 6 0 [] M1 n rfl (by decide) (by omega) hR1 ((g2 0 32 rfl).trans h32) hT q r hs
  have f1 : Fr cdR (1029 :: 1030 :: GOD) N M1 := f4.trans (g2.mono (by decide))
  refine ⟨fun hr => ?_, fun l hl => ?_⟩
  · obtain ⟨N', k1, k2, k3⟩ := I.1 hr
    exact ⟨N', e.trans k1, k2.in.2.1, f1.trans (k3.mono (by decide))⟩
  · obtain ⟨N', k1, k2, k3, k4, k5⟩ := I.2 l hl
    exact ⟨N', e.trans k1, f1.trans (k3.mono (by decide)), k4, k5⟩
/-- a text that the state knows -/
theorem e_m_goesK (hn : 3000 ≤ n) {N σ : Mm} (hI : Inv σ) (hA : AgR N σ) {k : Nat} (hk : (k : Int) < σ 0 18) : ∃ N', f_m_goes n k N = some (1, N') ∧ Fr cdR GOL N N' ∧ (∀ w : Nat, w < 5 → N' 17 w = lwk σ k w) ∧ (∀ w : Nat, w < 4 → 0 ≤ lwk σ k w → N' 18 w = (cAt (CL σ k) (lwk σ k w).toNat).2.1 ∧ (w = 0 ∨ w = 2 → N' 19 w = (cAt (CL σ k) (lwk σ k w).toNat).2.2.1)) ∧ (0 ≤ lwk σ k 4 → N' 0 28 = if evB (N 16) (cAt (CL σ k) (lwk σ k 4).toNat).2.2.2 = true then 1 else 0) := by
  have hC := hI.2.2.1
  have c1 := hC.1
  have ck := hC.2.2.2 k hk
  obtain ⟨q, l, hl⟩ := ck.2.2
  have a14 : N 14 = σ 14 := hA.row (k := 14) (fun _ => rfl)
  have a15 : N 15 = σ 15 := hA.row (k := 15) (fun _ => rfl)
  have hcl : CL σ k = l := by unfold CL; rw [hl]; rfl
  obtain ⟨N', k1, k2, k3, k4⟩ := (e_m_goesG (m := (σ 15 k).toNat) hn (N := N) (k := k) (by omega) (by rw [a15]; omega) (by omega) (by rw [a14]; exact hC.2.2.1) q (some l) (by rw [a14]; exact hl)).2 l rfl
  unfold lwk
  rw [hcl]
  have h16 : N' 16 = N 16 := k2.row (k := 16) (fun _ => rfl)
  refine ⟨N', k1, k2.mono (by decide), k3.1, k3.2.1, ?_⟩
  rw [← h16]
  exact k3.2.2
end
