/-! The class's clauses and texts. -/
section
variable {t : Nat → Int} {m n : Nat}
def CYL : List Nat := [1203, 1211, 37, 34, 35, 36]
/-- clause ci is told; nothing else is touched -/
def CLc (M M' : Mm) (ci e : Nat) (c : Cl) : Prop :=
  M' 34 ci = (c.1 : Int) ∧ c.1 < 5 ∧ (c.1 ≠ 4 → M' 35 ci = c.2.1 ∧ (c.1 = 0 ∨ c.1 = 2 → M' 36 ci = c.2.2.1) ∧ M' 2 11 = (e : Int)) ∧
  (c.1 = 4 → M' 35 ci = (e : Int) ∧ M' 36 ci = ((e + c.2.2.2.length : Nat) : Int) ∧ (∀ i, i < c.2.2.2.length → M' 37 (e + i) = (c.2.2.2[i]?).getD 0) ∧ M' 2 11 = ((e + c.2.2.2.length : Nat) : Int))
def KCc (M M' : Mm) (ci e : Nat) : Prop := (∀ j, j ≠ ci → M' 34 j = M 34 j ∧ M' 35 j = M 35 j ∧ M' 36 j = M 36 j) ∧ KPc M M' e
theorem KCc.fr {M M' : Mm} {ci e : Nat} (f : Fr cdC [1203] M M') : KCc M M' ci e := ⟨fun j _ => ⟨f 34 j rfl, f 35 j rfl, f 36 j rfl⟩, fun i _ => f 37 i rfl⟩
theorem KCc.tr {M M1 M2 : Mm} {ci e : Nat} (h : KCc M M1 ci e) (h' : KCc M1 M2 ci e) : KCc M M2 ci e :=
  ⟨fun j hj => ⟨(h'.1 j hj).1.trans (h.1 j hj).1, (h'.1 j hj).2.1.trans (h.1 j hj).2.1, (h'.1 j hj).2.2.trans (h.1 j hj).2.2⟩, fun i hi => (h'.2 i hi).trans (h.2 i hi)⟩
theorem KCc.st (M : Mm) {a ci e : Nat} (v : Int) (ha : a = 34 ∨ a = 35 ∨ a = 36) : KCc M (mset M a ci v) ci e := by
  refine ⟨fun j hj => ⟨?_, ?_, ?_⟩, fun i _ => by rw [mg_k _ _ _ (by omega)]⟩
  · rcases ha with rfl | rfl | rfl
    · exact mg_j _ _ _ hj
    · rw [mg_k _ _ _ (by decide)]
    · rw [mg_k _ _ _ (by decide)]
  · rcases ha with rfl | rfl | rfl
    · rw [mg_k _ _ _ (by decide)]
    · exact mg_j _ _ _ hj
    · rw [mg_k _ _ _ (by decide)]
  · rcases ha with rfl | rfl | rfl
    · rw [mg_k _ _ _ (by decide)]
    · rw [mg_k _ _ _ (by decide)]
    · exact mg_j _ _ _ hj
theorem e_C_readClause (hn : 3000 ≤ n) {M : Mm} {p e e0 ci : Nat} (hR : RDc M t m p) (he : M 2 11 = (e : Int)) (h0 : e ≤ e0 + p) (h19 : e0 ≤ 1900) (hci : ci < 120) : ∀ q r, sClause t m p = (q, r) → (r = none → ∃ M', f_C_readClause n ci M = some (0, M') ∧ RDc M' t m q ∧ Fr cdC CYL M M' ∧ KCc M M' ci e) ∧ ∀ c, r = some c → ∃ (M' : Mm) (e' : Nat), f_C_readClause n ci M = some (1, M') ∧ RDc M' t m q ∧ Fr cdC CYL M M' ∧ KCc M M' ci e ∧ CLc M M' ci e c ∧ M' 2 11 = (e' : Int) ∧ e ≤ e' ∧ e' ≤ e0 + q := by
  intro q r hs
  have hi := hR.1
  have hw5 : wOf (nx t m p) < 5 := by unfold wOf; repeat' split
                                      all_goals decide
  have hs' : (match sWord t m (wLet (wOf (nx t m p))) p with
    | (q, false) => (q, none)
    | (q, true) => sRest t m (wOf (nx t m p)) q) = (q, r) := hs
  rw [wdS_l _ hw5, sWord_app] at hs'
  obtain ⟨M1, q1, k1, k2, k3, k4⟩ := e_C_readWord hn hR
  generalize hw : wOf (nx t m p) = w at *
  unfold f_C_readClause
  rw [k1, bnd_mk]
  rcases hsw : sWord t m (wdS w) p with ⟨qq, b⟩
  rw [hsw] at hs' k2
  have k2' : q1 = qq := k2
  rw [k2'] at k3
  cases b with
  | false =>
    have hs2 : (qq, (none : Option Cl)) = (q, r) := hs'
    cases hs2
    rw [ifn (show ¬ false = true by decide), ifp (by decide)]
    exact ⟨fun _ => ⟨M1, rfl, k3, k4.mono (by decide), KCc.fr k4⟩, fun c hc => by cases hc⟩
  | true =>
    have e1 : M1 2 11 = (e : Int) := (k4 2 11 rfl).trans he
    rw [ifp (show true = true from rfl), ifn (show ¬ (w : Int) < 0 by omega), e_C_takes k3 (by decide)]
    have hs2 : (match (if nx t m qq = 32 then (qq + 1, true) else (qq, false) : Nat × Bool) with
      | (q, false) => (q, none)
      | (q, true) => sRest t m w q) = (q, r) := hs'
    by_cases c32 : nx t m qq = 32
    · rw [ifp c32] at hs2
      have hs3 : sRest t m w (qq + 1) = (q, r) := hs2
      have hlt := nx_lt c32 (by decide)
      rw [ifp c32, bnd_mk, ifp (show (1 : Int) ≠ 0 by decide), ckp (by omega), Int.toNat_natCast]
      have hR2 := k3.adv (q := qq + 1) (by omega)
      have f2 : Fr cdC [1203] M (mset M1 2 3 ((qq + 1 : Nat) : Int)) := k4.set rfl
      generalize mset M1 2 3 ((qq + 1 : Nat) : Int) = M2 at hR2 f2 ⊢
      have f34 : Fr cdC [34] M2 (mset M2 34 ci (w : Int)) := Fr.rf.set rfl
      have hR3 : RDc (mset M2 34 ci (w : Int)) t m (qq + 1) := hR2.fr f34 rfl rfl rfl
      have kk3 : KCc M (mset M2 34 ci (w : Int)) ci e := (KCc.fr f2).tr (KCc.st M2 (w : Int) (Or.inl rfl))
      have m34 : mset M2 34 ci (w : Int) 34 ci = (w : Int) := mg_s _ _ _ _
      have f3 : Fr cdC CYL M (mset M2 34 ci (w : Int)) := (f2.mono (by decide)).trans (f34.mono (by decide))
      have e3 : mset M2 34 ci (w : Int) 2 11 = (e : Int) := by rw [mg_k _ _ _ (by decide), f2 2 11 rfl]; exact he
      generalize mset M2 34 ci (w : Int) = M3 at hR3 kk3 m34 f3 e3 ⊢
      by_cases cw4 : w = 4
      · subst cw4
        rw [ifn (show ¬ ((4 : Nat) : Int) ≠ 4 by decide), ckp (by omega), e3]
        have hs4 : (match sE t m 1000 0 0 (qq + 1) with
          | (q', none) => (q', none)
          | (q', some c) => (q', some ((4, 0, 0, c) : Cl))) = (q, r) := hs3
        have f35 : Fr cdC [35] M3 (mset M3 35 ci (e : Int)) := Fr.rf.set rfl
        have hR4 : RDc (mset M3 35 ci (e : Int)) t m (qq + 1) := hR3.fr f35 rfl rfl rfl
        have kk4 : KCc M (mset M3 35 ci (e : Int)) ci e := kk3.tr (KCc.st M3 (e : Int) (Or.inr (Or.inl rfl)))
        have n34 : mset M3 35 ci (e : Int) 34 ci = ((4 : Nat) : Int) := by rw [mg_k _ _ _ (by decide)]; exact m34
        have n35 : mset M3 35 ci (e : Int) 35 ci = (e : Int) := mg_s _ _ _ _
        have f4 : Fr cdC CYL M (mset M3 35 ci (e : Int)) := f3.trans (f35.mono (by decide))
        have e4 : mset M3 35 ci (e : Int) 2 11 = (e : Int) := by rw [mg_k _ _ _ (by decide)]; exact e3
        generalize mset M3 35 ci (e : Int) = M4 at hR4 kk4 n34 n35 f4 e4 ⊢
        have hqp : p ≤ qq := by
          have : 0 < qq := by
            apply Nat.pos_of_ne_zero
            intro z
            have h1 : nx t m 0 = 32 := by rw [← z]; exact c32
            -- the word has letters
            have hs5 : sWord t m (wdS 4) p = (qq, true) := hsw
            have : ∀ (l : List Int) (p : Nat), (sWord t m l p).2 = true → (sWord t m l p).1 = p + l.length := by
              intro l
              induction l with
              | nil => intro p _; rfl
              | cons x l ih =>
                intro p hp
                have ex : sWord t m (x :: l) p = if nx t m p = x then sWord t m l (p + 1) else (p, false) := rfl
                rw [ex] at hp ⊢
                by_cases cx : nx t m p = x
                · rw [ifp cx] at hp ⊢
                  rw [ih (p + 1) hp]; show p + 1 + l.length = p + (l.length + 1); omega
                · rw [ifn cx] at hp; cases hp
            have := this (wdS 4) p (by rw [hs5])
            rw [hs5] at this
            have hl : (wdS 4).length = 5 := rfl
            have this' : qq = p + (wdS 4).length := this
            omega
          have : ∀ (l : List Int) (p : Nat), p ≤ (sWord t m l p).1 := by
            intro l
            induction l with
            | nil => intro p; exact Nat.le_refl p
            | cons x l ih =>
              intro p
              have ex : sWord t m (x :: l) p = if nx t m p = x then sWord t m l (p + 1) else (p, false) := rfl
              rw [ex]
              by_cases cx : nx t m p = x
              · rw [ifp cx]; have := ih (p + 1); omega
              · rw [ifn cx]; exact Nat.le_refl p
          have h1 := this (wdS 4) p
          have hs5 : sWord t m (wdS 4) p = (qq, true) := hsw
          rw [hs5] at h1
          exact h1
        have I := (CP_all (t := t) (m := m) (n := n) (e0 := e0) hn h19 1000).2.2.2.1 (qq + 1) 0 e 40 M4 hR4 e4 (by omega) (by decide) (by decide) (by omega)
        have eg : g_rd n 40 0 0 M4 = g_rd n 40 0 ((0 : Nat) : Int) M4 := rfl
        rw [eg]
        rcases hh : sE t m 1000 0 0 (qq + 1) with ⟨q2, r2⟩
        rw [hh] at hs4 I
        cases r2 with
        | none =>
          have hs6 : (q2, (none : Option Cl)) = (q, r) := hs4
          cases hs6
          obtain ⟨M5, z1, z2, z3, z4⟩ := I.1.1 rfl
          rw [z1, bnd_mk, ckp (by omega)]
          have f36 : Fr cdC [36] M5 (mset M5 36 ci (M5 2 11)) := Fr.rf.set rfl
          have kk5 : KCc M4 M5 ci e := ⟨fun j _ => ⟨z3 34 j rfl, z3 35 j rfl, z3 36 j rfl⟩, z4⟩
          exact ⟨fun _ => ⟨_, rfl, z2.fr f36 rfl rfl rfl, (f4.trans (z3.mono (by decide))).trans (f36.mono (by decide)), (kk4.tr kk5).tr (KCc.st M5 (M5 2 11) (Or.inr (Or.inr rfl)))⟩, fun c hc => by cases hc⟩
        | some c2 =>
          have hs6 : (q2, some ((4, 0, 0, c2) : Cl)) = (q, r) := hs4
          cases hs6
          obtain ⟨M5, z1, z2, z3, z4, z5, z6⟩ := I.1.2 c2 rfl
          have z5' : c2.length + (qq + 1) ≤ q := z5
          rw [z1, bnd_mk, ckp (by omega)]
          have f36 : Fr cdC [36] M5 (mset M5 36 ci (M5 2 11)) := Fr.rf.set rfl
          have kk5 : KCc M4 M5 ci e := ⟨fun j _ => ⟨z3 34 j rfl, z3 35 j rfl, z3 36 j rfl⟩, z4.2.1⟩
          refine ⟨fun h => (by cases h), fun c hc => ?_⟩
          cases hc
          refine ⟨mset M5 36 ci (M5 2 11), e + c2.length, rfl, z2.fr f36 rfl rfl rfl, (f4.trans (z3.mono (by decide))).trans (f36.mono (by decide)), (kk4.tr kk5).tr (KCc.st M5 (M5 2 11) (Or.inr (Or.inr rfl))), ⟨?_, by show 4 < 5; decide, fun h => absurd rfl h, fun _ => ⟨?_, ?_, fun i hi => ?_, ?_⟩⟩, ?_, by omega, by omega⟩
          · rw [mg_k _ _ _ (by decide), z3 34 ci rfl]; exact n34
          · rw [mg_k _ _ _ (by decide), z3 35 ci rfl]; exact n35
          · rw [mg_s]; exact z4.1
          · rw [mg_k _ _ _ (by decide)]; exact z4.2.2 i hi
          · rw [mg_k _ _ _ (by decide)]; exact z4.1
          · rw [mg_k _ _ _ (by decide)]; exact z4.1
      · rw [ifp (show ((w : Nat) : Int) ≠ 4 by omega)]
        have hs4 : (match sNum t m false (qq + 1) with
          | (q1, none) => (q1, none)
          | (q1, some v) => if w = 1 ∨ w = 3 then (q1, some ((w, v, 0, []) : Cl)) else
            if nx t m q1 = 32 then match sNum t m (decide (w = 0)) (q1 + 1) with
              | (q2, none) => (q2, none)
              | (q2, some v2) => (q2, some (w, v, v2, []))
            else (q1, none)) = (q, r) := by
          unfold sRest at hs3
          rw [ifn cw4] at hs3
          exact hs3
        obtain ⟨M4, q4, j1, j2, j3, j4, j5⟩ := e_C_readNumber hn hR3 false
        have j1' : f_C_readNumber n 0 M3 = _ := j1
        rw [j1', bnd_mk, ckp (by omega), ckp (by omega)]
        rcases hsn : sNum t m false (qq + 1) with ⟨q5, o⟩
        rw [hsn] at hs4 j2 j5
        have j2' : q4 = q5 := j2
        rw [j2'] at j3
        have v0 : (q5, o).2 = o := rfl
        rw [v0]
        have f35 : Fr cdC [35] M4 (mset M4 35 ci (o.getD (-1))) := Fr.rf.set rfl
        have hR5 : RDc (mset M4 35 ci (o.getD (-1))) t m q5 := j3.fr f35 rfl rfl rfl
        have kk5 : KCc M (mset M4 35 ci (o.getD (-1))) ci e := (kk3.tr (KCc.fr j4)).tr (KCc.st M4 (o.getD (-1)) (Or.inr (Or.inl rfl)))
        have n34 : mset M4 35 ci (o.getD (-1)) 34 ci = ((w : Nat) : Int) := by rw [mg_k _ _ _ (by decide), j4 34 ci rfl]; exact m34
        have n35 : mset M4 35 ci (o.getD (-1)) 35 ci = o.getD (-1) := mg_s _ _ _ _
        have f5 : Fr cdC CYL M (mset M4 35 ci (o.getD (-1))) := (f3.trans (j4.mono (by decide))).trans (f35.mono (by decide))
        have e5 : mset M4 35 ci (o.getD (-1)) 2 11 = (e : Int) := by rw [mg_k _ _ _ (by decide), j4 2 11 rfl]; exact e3
        generalize mset M4 35 ci (o.getD (-1)) = M5 at hR5 kk5 n34 n35 f5 e5 ⊢
        rw [n35]
        have r90 : f_C_readClause_90 n ci M5 = if o.getD (-1) < 0 then some (0, M5) else some (1, M5) := by
          unfold f_C_readClause_90
          rw [ckp (by omega), Int.toNat_natCast, n35]
        cases o with
        | none =>
          have hs5 : (q5, (none : Option Cl)) = (q, r) := hs4
          cases hs5
          rw [ifp (by decide), r90, ifp (by decide)]
          exact ⟨fun _ => ⟨M5, rfl, hR5, f5, kk5⟩, fun c hc => by cases hc⟩
        | some v =>
          have hv := j5 v rfl
          have eg : (some v).getD (-1) = v := rfl
          rw [eg] at r90 n35 ⊢
          rw [ifn (show ¬ v < 0 by omega)] at r90 ⊢
          have hs5 : (if w = 1 ∨ w = 3 then (q5, some ((w, v, 0, []) : Cl)) else
            if nx t m q5 = 32 then match sNum t m (decide (w = 0)) (q5 + 1) with
              | (q2, none) => (q2, none)
              | (q2, some v2) => (q2, some (w, v, v2, []))
            else (q5, none)) = (q, r) := hs4
          have hpm : e ≤ e0 + q5 := by
            have h1 : ∀ (l : List Int) (p : Nat), p ≤ (sWord t m l p).1 := by
              intro l
              induction l with
              | nil => intro p; exact Nat.le_refl p
              | cons x l ih =>
                intro p
                have ex : sWord t m (x :: l) p = if nx t m p = x then sWord t m l (p + 1) else (p, false) := rfl
                rw [ex]
                by_cases cx : nx t m p = x
                · rw [ifp cx]; have := ih (p + 1); omega
                · rw [ifn cx]; exact Nat.le_refl p
            have h2 := h1 (wdS w) p
            rw [hsw] at h2
            have h2' : p ≤ qq := h2
            have h3 := (sNum_ge (t := t) (m := m) false (qq + 1)).1
            rw [hsn] at h3
            have h3' : qq + 1 ≤ q5 := h3
            omega
          by_cases w13 : w = 1 ∨ w = 3
          · rw [ifp w13] at hs5
            cases hs5
            refine ⟨fun h => (by cases h), fun c hc => ?_⟩
            cases hc
            refine ⟨M5, e, ?_, hR5, f5, kk5, ⟨n34, by show w < 5; omega, fun _ => ⟨n35, fun h => ?_, e5⟩, fun h => absurd h cw4⟩, e5, Nat.le_refl e, hpm⟩
            · by_cases w1 : w = 1
              · rw [ifp (show ((w : Nat) : Int) = 1 by omega), r90]
              · rw [ifn (show ¬ ((w : Nat) : Int) = 1 by omega), ifn (show ¬ ((w : Nat) : Int) ≠ 3 by omega), r90]
            · have h' : w = 0 ∨ w = 2 := h
              omega
          · rw [ifn w13] at hs5
            rw [ifn (show ¬ ((w : Nat) : Int) = 1 by omega), ifp (show ((w : Nat) : Int) ≠ 3 by omega), e_C_takes hR5 (by decide)]
            by_cases c32b : nx t m q5 = 32
            · rw [ifp c32b] at hs5
              have hlt5 := nx_lt c32b (by decide)
              rw [ifp c32b, bnd_mk, ifp (show (1 : Int) ≠ 0 by decide)]
              have hR6 := hR5.adv (q := q5 + 1) (by omega)
              have f6 : Fr cdC [1203] M5 (mset M5 2 3 ((q5 + 1 : Nat) : Int)) := Fr.rf.set rfl
              generalize mset M5 2 3 ((q5 + 1 : Nat) : Int) = M6 at hR6 f6 ⊢
              obtain ⟨M7, q7, l1, l2, l3, l4, l5⟩ := e_C_readNumber hn hR6 (decide (w = 0))
              have e131 : (if ((w : Nat) : Int) ≠ 0 then f_C_readClause_131 n ci ci 0 M6 else f_C_readClause_131 n ci ci 1 M6) = bnd (f_C_readNumber n (if decide (w = 0) = true then 1 else 0) M6) (fun r1 M1 => if r1 < 0 then some (0, mset M1 36 ci r1) else some (1, mset M1 36 ci r1)) := by
                unfold f_C_readClause_131
                simp only [ckp (show (0 : Int) ≤ (ci : Int) ∧ (ci : Int) < 120 by omega), Int.toNat_natCast, mg_s]
                by_cases w0 : w = 0
                · subst w0; rfl
                · rw [ifp (by omega), ifn (show ¬ decide (w = 0) = true by simpa using w0)]
              rw [e131, l1, bnd_mk]
              rcases hsn2 : sNum t m (decide (w = 0)) (q5 + 1) with ⟨q8, o2⟩
              rw [hsn2] at hs5 l2 l5
              have l2' : q7 = q8 := l2
              rw [l2'] at l3
              have v1 : (q8, o2).2 = o2 := rfl
              rw [v1]
              have f36 : Fr cdC [36] M7 (mset M7 36 ci (o2.getD (-1))) := Fr.rf.set rfl
              have kk7 : KCc M (mset M7 36 ci (o2.getD (-1))) ci e := ((kk5.tr (KCc.fr f6)).tr (KCc.fr l4)).tr (KCc.st M7 (o2.getD (-1)) (Or.inr (Or.inr rfl)))
              have f7 : Fr cdC CYL M (mset M7 36 ci (o2.getD (-1))) := ((f5.trans (f6.mono (by decide))).trans (l4.mono (by decide))).trans (f36.mono (by decide))
              cases o2 with
              | none =>
                have hs6 : (q8, (none : Option Cl)) = (q, r) := hs5
                cases hs6
                rw [ifp (by decide)]
                exact ⟨fun _ => ⟨_, rfl, l3.fr f36 rfl rfl rfl, f7, kk7⟩, fun c hc => by cases hc⟩
              | some v2 =>
                have hs6 : (q8, some ((w, v, v2, []) : Cl)) = (q, r) := hs5
                cases hs6
                have hv2 := l5 v2 rfl
                have eg2 : (some v2).getD (-1) = v2 := rfl
                rw [eg2] at f36 kk7 f7 ⊢
                rw [ifn (show ¬ v2 < 0 by omega)]
                have h3 := (sNum_ge (t := t) (m := m) (decide (w = 0)) (q5 + 1)).1
                rw [hsn2] at h3
                have h3' : q5 + 1 ≤ q := h3
                refine ⟨fun h => (by cases h), fun c hc => ?_⟩
                cases hc
                have e7 : mset M7 36 ci v2 2 11 = (e : Int) := by rw [mg_k _ _ _ (by decide), l4 2 11 rfl, f6 2 11 rfl]; exact e5
                refine ⟨_, e, rfl, l3.fr f36 rfl rfl rfl, f7, kk7, ⟨?_, by show w < 5; omega, fun _ => ⟨?_, fun _ => mg_s _ _ _ _, e7⟩, fun h => absurd h cw4⟩, e7, Nat.le_refl e, by omega⟩
                · rw [mg_k _ _ _ (by decide), l4 34 ci rfl, f6 34 ci rfl]; exact n34
                · rw [mg_k _ _ _ (by decide), l4 35 ci rfl, f6 35 ci rfl]; exact n35
            · rw [ifn c32b] at hs5
              cases hs5
              rw [ifn c32b, bnd_mk, ifn (show ¬ (0 : Int) ≠ 0 by decide)]
              exact ⟨fun _ => ⟨M5, rfl, hR5, f5, kk5⟩, fun c hc => by cases hc⟩
    · rw [ifn c32] at hs2
      cases hs2
      rw [ifn c32, bnd_mk, ifn (show ¬ (0 : Int) ≠ 0 by decide)]
      exact ⟨fun _ => ⟨M1, rfl, k3, k4.mono (by decide), KCc.fr k4⟩, fun c hc => by cases hc⟩
end
