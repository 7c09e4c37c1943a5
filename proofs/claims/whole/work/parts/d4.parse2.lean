/-! The class reads a text as the next charter. -/
section
variable {t : Nat → Int} {m n : Nat}
def PYL : List Nat := [1201, 1203, 1211, 33, 37, 34, 35, 36]
/-- the clauses of text ch so far, their code below e -/
def CLd (M : Mm) (ch e : Nat) (l : List Cl) : Prop := ∀ i, i < l.length → M 34 (6 * ch + i) = ((cAt l i).1 : Int) ∧ (cAt l i).1 ≤ 4 ∧ ((cAt l i).1 ≠ 4 → M 35 (6 * ch + i) = (cAt l i).2.1 ∧ ((cAt l i).1 = 0 ∨ (cAt l i).1 = 2 → M 36 (6 * ch + i) = (cAt l i).2.2.1)) ∧ ((cAt l i).1 = 4 → ∃ b : Nat, M 35 (6 * ch + i) = (b : Int) ∧ M 36 (6 * ch + i) = ((b + (cAt l i).2.2.2.length : Nat) : Int) ∧ b + (cAt l i).2.2.2.length ≤ e ∧ ∀ u, u < (cAt l i).2.2.2.length → M 37 (b + u) = ((cAt l i).2.2.2[u]?).getD 0)
/-- other texts' clauses and code stay -/
def KTx (M M' : Mm) (ch : Nat) : Prop := (∀ j, j < 6 * ch → M' 34 j = M 34 j ∧ M' 35 j = M 35 j ∧ M' 36 j = M 36 j) ∧ (∀ i, i < 100 * ch → M' 37 i = M 37 i) ∧ ∀ j, j ≠ ch → M' 33 j = M 33 j
theorem KTx.tr {M M1 M2 : Mm} {ch : Nat} (h : KTx M M1 ch) (h' : KTx M1 M2 ch) : KTx M M2 ch :=
  ⟨fun j hj => ⟨(h'.1 j hj).1.trans (h.1 j hj).1, (h'.1 j hj).2.1.trans (h.1 j hj).2.1, (h'.1 j hj).2.2.trans (h.1 j hj).2.2⟩, fun i hi => (h'.2.1 i hi).trans (h.2.1 i hi), fun j hj => (h'.2.2 j hj).trans (h.2.2 j hj)⟩
theorem KTx.fr {M M' : Mm} {ch : Nat} {L : List Nat} (f : Fr cdC L M M') (h : ([33, 34, 35, 36, 37].all fun x => !L.elem x) = true) : KTx M M' ch := by
  have g := List.all_eq_true.mp h
  have a : ∀ x, x ∈ [33, 34, 35, 36, 37] → L.elem x = false := fun x hx => by simpa using g x hx
  exact ⟨fun j _ => ⟨f 34 j (a 34 (by decide)), f 35 j (a 35 (by decide)), f 36 j (a 36 (by decide))⟩, fun i _ => f 37 i (a 37 (by decide)), fun j _ => f 33 j (a 33 (by decide))⟩
theorem CLd.fr {M M' : Mm} {ch e : Nat} {l : List Cl} {L : List Nat} (h : CLd M ch e l) (f : Fr cdC L M M') (hd : ([34, 35, 36, 37].all fun x => !L.elem x) = true) : CLd M' ch e l := by
  have g := List.all_eq_true.mp hd
  have a : ∀ x, x ∈ [34, 35, 36, 37] → L.elem x = false := fun x hx => by simpa using g x hx
  intro i hi
  have q := h i hi
  have e34 := f 34 (6 * ch + i) (a 34 (by decide))
  have e35 := f 35 (6 * ch + i) (a 35 (by decide))
  have e36 := f 36 (6 * ch + i) (a 36 (by decide))
  refine ⟨e34.trans q.1, q.2.1, fun z => ⟨e35.trans (q.2.2.1 z).1, fun y => e36.trans ((q.2.2.1 z).2 y)⟩, fun z => ?_⟩
  obtain ⟨b, b1, b2, b3, b4⟩ := q.2.2.2 z
  exact ⟨b, e35.trans b1, e36.trans b2, b3, fun u hu => (f 37 _ (a 37 (by decide))).trans (b4 u hu)⟩
theorem CLd_s {M M' : Mm} {ch e e' : Nat} {l : List Cl} {c : Cl} (h : CLd M ch e l) (hc : CLc M M' (6 * ch + l.length) e c) (hk : KCc M M' (6 * ch + l.length) e) (he : M' 2 11 = (e' : Int)) (hee : e ≤ e') : CLd M' ch e' (l ++ [c]) := by
  intro i hi
  have hlen : (l ++ [c]).length = l.length + 1 := by simp
  rw [hlen] at hi
  by_cases q : i = l.length
  · subst q
    rw [cAt_e]
    refine ⟨hc.1, by have := hc.2.1; omega, fun z => ⟨(hc.2.2.1 z).1, (hc.2.2.1 z).2.1⟩, fun z => ?_⟩
    obtain ⟨a1, a2, a3, a4⟩ := hc.2.2.2 z
    exact ⟨e, a1, a2, by rw [he] at a4; omega, a3⟩
  · rw [cAt_l (by omega)]
    have p := h i (by omega)
    have kk := hk.1 (6 * ch + i) (by omega)
    refine ⟨kk.1.trans p.1, p.2.1, fun z => ⟨kk.2.1.trans (p.2.2.1 z).1, fun y => kk.2.2.trans ((p.2.2.1 z).2 y)⟩, fun z => ?_⟩
    obtain ⟨b, b1, b2, b3, b4⟩ := p.2.2.2 z
    exact ⟨b, kk.2.1.trans b1, kk.2.2.trans b2, by omega, fun u hu => (hk.2 _ (by omega)).trans (b4 u hu)⟩
/-- the end at a fault -/
theorem parse_bad (g : Nat) {M : Mm} {k q : Nat} (hR : RDc M t m q) : lp_C_parse_20 n (g + 1) 0 k M = some ((q : Int), mset M 2 1 0) := by
  show f_C_parse_20 n (lp_C_parse_20 n g) 0 k M = _
  have e : f_C_parse_108 n M = some ((q : Int), mset M 2 1 0) := by
    unfold f_C_parse_108
    rw [mg_j _ _ _ (by decide), hR.2.2.1]
  unfold f_C_parse_20
  by_cases c : 6 ≤ (k : Int)
  · rw [ifp c, e]
  · rw [ifn c, ifp rfl, e]
theorem l_C_parse (hn : 3000 ≤ n) {ch : Nat} (hch : ch < 20) : ∀ (K p : Nat) (l0 : List Cl) (M : Mm) (g e : Nat), l0.length + K = 6 → 1 ≤ K → K + 1 < g → RDc M t m p → M 2 0 = (ch : Int) → M 2 11 = (e : Int) → 100 * ch ≤ e → e ≤ 100 * ch + p → CLd M ch e l0 → ∀ q r, sGo t m K p = (q, r) → (r = none → ∃ M', lp_C_parse_20 n g 1 l0.length M = some ((q : Int), M') ∧ Fr cdC PYL M M' ∧ M' 2 1 = 0 ∧ KTx M M' ch) ∧ ∀ l, r = some l → ∃ M' e', lp_C_parse_20 n g 1 l0.length M = some (-1, M') ∧ Fr cdC PYL M M' ∧ M' 2 1 = 0 ∧ KTx M M' ch ∧ M' 33 ch = (((l0 ++ l).length : Nat) : Int) ∧ (l0 ++ l).length ≤ 6 ∧ CLd M' ch e' (l0 ++ l) ∧ e' ≤ 100 * ch + 100
  | 0, _, _, _, _, _, _, h, _, _, _, _, _, _, _ => absurd h (by decide)
  | K + 1, p, l0, M, g, e, hK, _, hg, hR, h20, he, he1, he2, hL => by
    intro q r hs
    obtain ⟨g', rfl, hg'⟩ := f_pos (show 0 < g by omega)
    have hi := hR.1
    have hs' : (match sClause t m p with
      | (q, none) => (q, none)
      | (q, some c) => if m ≤ q then (q, some [c]) else if K = 0 then (q, none) else
        if nx t m q = 59 then match sGo t m K (q + 1) with
          | (q', none) => (q', none)
          | (q', some l) => (q', some (c :: l))
        else (q, none)) = (q, r) := hs
    have el : lp_C_parse_20 n (g' + 1) 1 l0.length M = f_C_parse_20 n (lp_C_parse_20 n g') 1 l0.length M := rfl
    rw [el]
    unfold f_C_parse_20
    rw [ifn (show ¬ (6 : Int) ≤ (l0.length : Int) by omega), ifn (show ¬ (1 : Int) = 0 by decide), h20, w32_s (x := (ch : Int) * 6) (by omega) (by omega), w32_s (x := (ch : Int) * 6 + (l0.length : Int)) (by omega) (by omega), show (ch : Int) * 6 + (l0.length : Int) = ((6 * ch + l0.length : Nat) : Int) by omega]
    have C := fun q r hh => e_C_readClause (t := t) (m := m) hn (e0 := 100 * ch) (ci := 6 * ch + l0.length) hR he (by omega) (by omega) (by omega) q r hh
    obtain ⟨g2, rfl, _⟩ := f_pos (show 0 < g' by omega)
    have kt : ∀ {M1 : Mm}, KCc M M1 (6 * ch + l0.length) e → Fr cdC CYL M M1 → KTx M M1 ch := fun {M1} hk hf => ⟨fun j hj => hk.1 j (by omega), fun i hi => hk.2 i (by omega), fun j _ => hf 33 j rfl⟩
    have f21 : ∀ M1 : Mm, Fr cdC [1201] M1 (mset M1 2 1 0) := fun M1 => Fr.rf.set rfl
    rcases hh : sClause t m p with ⟨q1, r1⟩
    rw [hh] at hs'
    have C1 := C q1 r1 hh
    cases r1 with
    | none =>
      have hs2 : (q1, (none : Option (List Cl))) = (q, r) := hs'
      cases hs2
      obtain ⟨M1, k1, k2, k3, k4⟩ := C1.1 rfl
      rw [k1, bnd_mk, ifp rfl]
      unfold f_C_parse_78 f_C_parse_100 f_C_parse_101
      rw [ifp rfl, w_succ (by omega), parse_bad g2 k2]
      exact ⟨fun _ => ⟨_, rfl, (k3.mono (by decide)).trans ((f21 M1).mono (by decide)), mg_s _ _ _ _, (kt k4 k3).tr (KTx.fr (f21 M1) (by decide))⟩, fun l hl => by cases hl⟩
    | some c =>
      obtain ⟨M1, e', k1, k2, k3, k4, k5, k6, k7, k8⟩ := C1.2 c rfl
      have hs2 : (if m ≤ q1 then (q1, some [c]) else if K = 0 then (q1, none) else
        if nx t m q1 = 59 then match sGo t m K (q1 + 1) with
          | (q', none) => (q', none)
          | (q', some l) => (q', some (c :: l))
        else (q1, none)) = (q, r) := hs'
      have hL1 := CLd_s hL k5 k4 k6 k7
      have hlen : (l0 ++ [c]).length = l0.length + 1 := by simp
      have b21 : M1 2 1 = (m : Int) := k2.2.1
      have b23 : M1 2 3 = (q1 : Int) := k2.2.2.1
      have b20 : M1 2 0 = (ch : Int) := (k3 2 0 rfl).trans h20
      rw [k1, bnd_mk, ifn (show ¬ (1 : Int) = 0 by decide), b21, b23]
      by_cases c1 : m ≤ q1
      · rw [ifp c1] at hs2
        cases hs2
        rw [ifn (show ¬ ((q : Int) < (m : Int)) by omega), b20, ckp (by omega), Int.toNat_natCast, w_succ (by omega)]
        refine ⟨fun h => (by cases h), fun l hl => ?_⟩
        cases hl
        have f2 : Fr cdC [33, 1201] M1 (mset (mset M1 33 ch ((l0.length + 1 : Nat) : Int)) 2 1 0) := (Fr.rf.set rfl).set rfl
        refine ⟨_, e', rfl, (k3.mono (by decide)).trans (f2.mono (by decide)), mg_s _ _ _ _, (kt k4 k3).tr ⟨fun j _ => ⟨f2 34 j rfl, f2 35 j rfl, f2 36 j rfl⟩, fun i _ => f2 37 i rfl, fun j hj => by rw [mg_k _ _ _ (by decide), mg_j _ _ _ hj]⟩, ?_, by rw [hlen]; omega, hL1.fr f2 (by decide), by have := k2.1; omega⟩
        rw [mg_k _ _ _ (by decide), mg_s, hlen]
      · rw [ifn c1] at hs2
        rw [ifp (show (q1 : Int) < (m : Int) by omega)]
        unfold f_C_parse_78 f_C_parse_100 f_C_parse_101
        rw [ifn (show ¬ (1 : Int) = 0 by decide)]
        by_cases c2 : K = 0
        · rw [ifp c2] at hs2
          cases hs2
          rw [ifp (show (5 : Int) ≤ (l0.length : Int) by omega), w_succ (by omega), parse_bad g2 k2]
          exact ⟨fun _ => ⟨_, rfl, (k3.mono (by decide)).trans ((f21 M1).mono (by decide)), mg_s _ _ _ _, (kt k4 k3).tr (KTx.fr (f21 M1) (by decide))⟩, fun l hl => by cases hl⟩
        · rw [ifn c2] at hs2
          rw [ifn (show ¬ (5 : Int) ≤ (l0.length : Int) by omega), e_C_takes k2 (by decide)]
          by_cases c3 : nx t m q1 = 59
          · rw [ifp c3] at hs2
            rw [ifp c3, bnd_mk, ifn (show ¬ (1 : Int) = 0 by decide), w_succ (by omega)]
            have hR2 := k2.adv (q := q1 + 1) (by omega)
            have f2 : Fr cdC [1203] M1 (mset M1 2 3 ((q1 + 1 : Nat) : Int)) := Fr.rf.set rfl
            generalize mset M1 2 3 ((q1 + 1 : Nat) : Int) = M2 at hR2 f2 ⊢
            rcases hh2 : sGo t m K (q1 + 1) with ⟨q2, r2⟩
            rw [hh2] at hs2
            have I := l_C_parse hn hch K (q1 + 1) (l0 ++ [c]) M2 (g2 + 1) e' (by rw [hlen]; omega) (by omega) (by omega) hR2 ((f2 2 0 rfl).trans b20) ((f2 2 11 rfl).trans k6) (by omega) (by omega) (hL1.fr f2 (by decide)) q2 r2 hh2
            rw [hlen] at I
            have f3 : Fr cdC PYL M M2 := (k3.mono (by decide)).trans (f2.mono (by decide))
            have kt3 : KTx M M2 ch := (kt k4 k3).tr (KTx.fr f2 (by decide))
            cases r2 with
            | none =>
              have hs3 : (q2, (none : Option (List Cl))) = (q, r) := hs2
              cases hs3
              obtain ⟨M3, y1, y2, y3, y4⟩ := I.1 rfl
              exact ⟨fun _ => ⟨M3, y1, f3.trans y2, y3, kt3.tr y4⟩, fun l hl => by cases hl⟩
            | some l2 =>
              have hs3 : (q2, some (c :: l2)) = (q, r) := hs2
              cases hs3
              refine ⟨fun h => (by cases h), fun l hl => ?_⟩
              cases hl
              obtain ⟨M3, e3, y1, y2, y3, y4, y5, y6, y7, y8⟩ := I.2 l2 rfl
              have ea : (l0 ++ [c]) ++ l2 = l0 ++ c :: l2 := by simp
              rw [ea] at y5 y6 y7
              exact ⟨M3, e3, y1, f3.trans y2, y3, kt3.tr y4, y5, y6, y7, y8⟩
          · rw [ifn c3] at hs2
            cases hs2
            rw [ifn c3, bnd_mk, ifp rfl, w_succ (by omega), parse_bad g2 k2]
            exact ⟨fun _ => ⟨_, rfl, (k3.mono (by decide)).trans ((f21 M1).mono (by decide)), mg_s _ _ _ _, (kt k4 k3).tr (KTx.fr (f21 M1) (by decide))⟩, fun l hl => by cases hl⟩
theorem e_C_parse (hn : 3000 ≤ n) {M : Mm} {ch : Nat} (hch : ch < 20) (h20 : M 2 0 = (ch : Int)) (hm : m ≤ 100) (h21 : M 2 1 = (m : Int)) (h30 : ∀ j, j < m → M 30 j = t j) (ht : ∀ j, -128 ≤ t j ∧ t j ≤ 127) : ∀ q r, sGo t m 6 0 = (q, r) → (r = none → ∃ M', f_C_parse n M = some ((q : Int), M') ∧ Fr cdC PYL M M' ∧ M' 2 1 = 0 ∧ KTx M M' ch) ∧ ∀ l, r = some l → ∃ M' e', f_C_parse n M = some (-1, M') ∧ Fr cdC PYL M M' ∧ M' 2 1 = 0 ∧ KTx M M' ch ∧ M' 33 ch = ((l.length : Nat) : Int) ∧ l.length ≤ 6 ∧ CLd M' ch e' l ∧ e' ≤ 100 * ch + 100 := by
  intro q r hs
  have f0 : Fr cdC [1203, 1211] M (mset (mset M 2 3 0) 2 11 ((100 * ch : Nat) : Int)) := (Fr.rf.set rfl).set rfl
  have e : f_C_parse n M = lp_C_parse_20 n n 1 ((0 : Nat) : Int) (mset (mset M 2 3 0) 2 11 ((100 * ch : Nat) : Int)) := by
    unfold f_C_parse
    rw [mg_j _ _ _ (show (0 : Nat) ≠ 3 by decide), h20, w32_s (by omega) (by omega), show (ch : Int) * 100 = ((100 * ch : Nat) : Int) by omega]
    rfl
  rw [e]
  have I := l_C_parse (t := t) (m := m) hn hch 6 0 [] (mset (mset M 2 3 0) 2 11 ((100 * ch : Nat) : Int)) n (100 * ch) rfl (by decide) (by omega) ⟨⟨hm, Nat.zero_le _⟩, by rw [mg_j _ _ _ (by decide), mg_j _ _ _ (by decide)]; exact h21, by rw [mg_j _ _ _ (by decide), mg_s]; rfl, fun j hj => by rw [mg_k _ _ _ (by decide), mg_k _ _ _ (by decide)]; exact h30 j hj, ht⟩ (by rw [mg_j _ _ _ (by decide), mg_j _ _ _ (by decide)]; exact h20) (mg_s _ _ _ _) (Nat.le_refl _) (by omega) (fun i hi => absurd hi (Nat.not_lt_zero i)) q r hs
  refine ⟨fun hr => ?_, fun l hl => ?_⟩
  · obtain ⟨M', y1, y2, y3, y4⟩ := I.1 hr
    exact ⟨M', y1, (f0.mono (by decide)).trans y2, y3, (KTx.fr f0 (by decide)).tr y4⟩
  · obtain ⟨M', e', y1, y2, y3, y4, y5, y6, y7, y8⟩ := I.2 l hl
    exact ⟨M', e', y1, (f0.mono (by decide)).trans y2, y3, (KTx.fr f0 (by decide)).tr y4, y5, y6, y7, y8⟩
end
