/-! The reference's clauses and whole texts. -/
section
variable {t : Nat → Int} {m n : Nat}
def GOC : List Nat := [17, 18, 19, 20, 21, 1028, 1031, 1033, 1036, 1037, 1038]
/-- what a clause leaves behind -/
def CLr (N N' : Mm) (k : Int) (c : Cl) : Prop :=
  (∀ w, w ≠ c.1 → N' 17 w = N 17 w) ∧ N' 17 c.1 = k ∧ (∀ w, w ≠ c.1 → N' 18 w = N 18 w ∧ N' 19 w = N 19 w) ∧
  (c.1 ≠ 4 → N' 18 c.1 = c.2.1 ∧ (c.1 = 0 ∨ c.1 = 2 → N' 19 c.1 = c.2.2.1) ∧ N' 0 28 = N 0 28) ∧
  (c.1 = 4 → N' 0 28 = if evB (N 16) c.2.2.2 = true then 1 else 0)
theorem e_says41 (w : Nat) (hw : w < 5) (x2 : Int) (N : Mm) : f_m_says_41 n w x2 N = some (1, mset (mset (mset N 17 w (N 0 32)) 18 w x2) 19 w (N 0 33)) := by
  unfold f_m_says_41
  rw [ckp (by omega), ckp (by omega), ckp (by omega), Int.toNat_natCast]
  rw [mg_k _ _ _ (show (0 : Nat) ≠ 18 by decide), mg_k _ _ _ (show (0 : Nat) ≠ 17 by decide)]
theorem says_fr (w : Nat) (a b c : Int) (N : Mm) : Fr cdR [17, 18, 19] N (mset (mset (mset N 17 w a) 18 w b) 19 w c) := ((Fr.rf.set rfl).set rfl).set rfl
theorem says_17 (w : Nat) (a b c : Int) (N : Mm) : mset (mset (mset N 17 w a) 18 w b) 19 w c 17 = mset N 17 w a 17 := by rw [mg_k _ _ _ (by decide), mg_k _ _ _ (by decide)]
theorem says_18 (w : Nat) (a b c : Int) (N : Mm) : mset (mset (mset N 17 w a) 18 w b) 19 w c 18 = mset (mset N 17 w a) 18 w b 18 := by rw [mg_k _ _ _ (by decide)]
/-- a clause with numbers -/
theorem e_num (hn : 3000 ≤ n) {N0 N : Mm} {k : Int} {p : Nat} (hR : RDt N t m p) (h32 : N 0 32 = k) (hf : Fr cdR GOC N0 N) (h0 : ∀ w, N 17 w = N0 17 w ∧ N 18 w = N0 18 w ∧ N 19 w = N0 19 w) (h28 : N 0 28 = N0 0 28) (w : Nat) (hw : w < 4) : ∀ q r, sRest t m w p = (q, r) → (r = none → ∃ N', bnd (f_m_takesNumber n 0 N) (fun r5 M5 => if r5 = 0 then some (0, M5) else (bnd (f_m_says n w M5) (fun r7 M7 => if r7 = 0 then some (0, M7) else (some (1, M7))))) = some (0, N') ∧ RDt N' t m q ∧ Fr cdR GOC N0 N') ∧ ∀ c, r = some c → ∃ N', bnd (f_m_takesNumber n 0 N) (fun r5 M5 => if r5 = 0 then some (0, M5) else (bnd (f_m_says n w M5) (fun r7 M7 => if r7 = 0 then some (0, M7) else (some (1, M7))))) = some (1, N') ∧ RDt N' t m q ∧ Fr cdR GOC N0 N' ∧ c.1 < 5 ∧ CLr N0 N' k c := by
  intro q r hs
  have hs' : (match sNum t m false p with
    | (q1, none) => (q1, none)
    | (q1, some v) => if w = 1 ∨ w = 3 then (q1, some ((w, v, 0, []) : Cl)) else
      if nx t m q1 = 32 then match sNum t m (decide (w = 0)) (q1 + 1) with
        | (q2, none) => (q2, none)
        | (q2, some v2) => (q2, some (w, v, v2, []))
      else (q1, none)) = (q, r) := by
    have e : sRest t m w p = _ := rfl
    unfold sRest at hs
    rw [ifn (by omega)] at hs
    exact hs
  obtain ⟨N1, q1, k1, k2, k3, k4, k5⟩ := e_m_takesNumber n hn hR false
  have k1' : f_m_takesNumber n 0 N = _ := k1
  rw [k1', bnd_mk]
  rcases hsn : sNum t m false p with ⟨qq, o⟩
  rw [hsn] at hs' k2 k5
  have f1 : Fr cdR GOC N0 N1 := hf.trans (k4.mono (by decide))
  have a17 : N1 17 = N 17 := k4.row (k := 17) (fun _ => rfl)
  have a18 : N1 18 = N 18 := k4.row (k := 18) (fun _ => rfl)
  have a19 : N1 19 = N 19 := k4.row (k := 19) (fun _ => rfl)
  have a32 : N1 0 32 = k := (k4 0 32 rfl).trans h32
  have a28 : N1 0 28 = N0 0 28 := (k4 0 28 rfl).trans h28
  cases o with
  | none =>
    have hs2 : (qq, (none : Option Cl)) = (q, r) := hs'
    cases hs2
    rw [k2] at k3
    refine ⟨fun _ => ⟨N1, by rw [ifn (show ¬ (none : Option Int).isSome = true by decide), ifp rfl], k3, f1⟩, fun c hc => by cases hc⟩
  | some v =>
    obtain ⟨v1, v2, v3⟩ := k5 v rfl
    rw [k2] at k3
    rw [ifp (show (some v).isSome = true from rfl), ifn (show ¬ (1 : Int) = 0 by decide)]
    have hs2 : (if w = 1 ∨ w = 3 then (qq, some ((w, v, 0, []) : Cl)) else
      if nx t m qq = 32 then match sNum t m (decide (w = 0)) (qq + 1) with
        | (q2, none) => (q2, none)
        | (q2, some v2) => (q2, some (w, v, v2, []))
      else (qq, none)) = (q, r) := hs'
    -- the last step
    have done : ∀ (N2 : Mm) (q2 : Nat) (v2 : Int), Fr cdR [1031, 1033] N1 N2 → RDt N2 t m q2 → (w = 0 ∨ w = 2 → N2 0 33 = v2) → ∃ N', f_m_says_41 n w v N2 = some (1, N') ∧ RDt N' t m q2 ∧ Fr cdR GOC N0 N' ∧ CLr N0 N' k ((w, v, v2, []) : Cl) := fun N2 q2 v2 f2 r2 h33 => by
      rw [e_says41 w (by omega) v N2]
      have b17 : N2 17 = N 17 := (f2.row (k := 17) (fun _ => rfl)).trans a17
      have b18 : N2 18 = N 18 := (f2.row (k := 18) (fun _ => rfl)).trans a18
      have b19 : N2 19 = N 19 := (f2.row (k := 19) (fun _ => rfl)).trans a19
      refine ⟨_, rfl, r2.fr (says_fr w _ _ _ N2) rfl rfl rfl rfl, (f1.trans (f2.mono (by decide))).trans ((says_fr w _ _ _ N2).mono (by decide)), fun w' hw' => ?_, ?_, fun w' hw' => ⟨?_, ?_⟩, fun _ => ⟨?_, fun h => ?_, ?_⟩, fun h => ?_⟩
      · rw [says_17, mg_j _ _ _ hw', b17]; exact (h0 w').1
      · show mset (mset (mset N2 17 w (N2 0 32)) 18 w v) 19 w (N2 0 33) 17 w = k
        rw [says_17, mg_s, f2 0 32 rfl]; exact a32
      · rw [says_18, mg_j _ _ _ hw', mg_k _ _ _ (by decide), b18]; exact (h0 w').2.1
      · rw [mg_j _ _ _ hw', mg_k _ _ _ (by decide), mg_k _ _ _ (by decide), b19]; exact (h0 w').2.2
      · show mset (mset (mset N2 17 w (N2 0 32)) 18 w v) 19 w (N2 0 33) 18 w = v
        rw [says_18, mg_s]
      · show mset (mset (mset N2 17 w (N2 0 32)) 18 w v) 19 w (N2 0 33) 19 w = v2
        rw [mg_s]; exact h33 h
      · rw [mg_k _ _ _ (by decide), mg_k _ _ _ (by decide), mg_k _ _ _ (by decide), f2 0 28 rfl]; exact a28
      · have h' : w = 4 := h
        omega
    have says0 : ∀ r2 : Option Int, ∀ q2, nx t m qq = 32 → (w = 0 ∨ w = 2) → sNum t m (decide (w = 0)) (qq + 1) = (q2, r2) → (r2 = none → ∃ N', f_m_says n w N1 = some (0, N') ∧ RDt N' t m q2 ∧ Fr cdR GOC N0 N') ∧ ∀ v2, r2 = some v2 → ∃ N', f_m_says n w N1 = some (1, N') ∧ RDt N' t m q2 ∧ Fr cdR GOC N0 N' ∧ CLr N0 N' k ((w, v, v2, []) : Cl) := fun r2 q2 h32' hw02 hh => by
      have hqm := nx_lt h32' (by decide)
      have hR2 := k3.adv (q := qq + 1) (by omega)
      have f2 : Fr cdR [1031, 1033] N1 (mset N1 0 31 ((qq + 1 : Nat) : Int)) := Fr.rf.set rfl
      obtain ⟨N3, q3, l1, l2, l3, l4, l5⟩ := e_m_takesNumber n hn hR2 (decide (w = 0))
      rw [hh] at l1 l2 l5
      have l2' : q3 = q2 := l2
      rw [l2'] at l3
      have f3 := f2.trans l4
      have e : f_m_says n w N1 = bnd (f_m_takesNumber n (if decide (w = 0) = true then 1 else 0) (mset N1 0 31 ((qq + 1 : Nat) : Int))) (fun r1 M1 => if r1 ≠ 0 then f_m_says_41 n w v M1 else (some (0, M1))) := by
        unfold f_m_says f_m_says_14 f_m_says_33
        rw [v1, e_m_takes n k3 (by decide), ifp h32', bnd_mk, ifn (show ¬ (1 : Int) = 0 by decide)]
        rcases hw02 with z | z
        · subst z; rfl
        · subst z; rfl
      rw [e, l1, bnd_mk]
      refine ⟨fun hr => ?_, fun v2 hr => ?_⟩
      · subst hr
        rw [ifn (show ¬ (none : Option Int).isSome = true by decide), ifn (show ¬ (0 : Int) ≠ 0 by decide)]
        exact ⟨N3, rfl, l3, f1.trans (f3.mono (by decide))⟩
      · subst hr
        rw [ifp (show (some v2).isSome = true from rfl), ifp (show (1 : Int) ≠ 0 by decide)]
        exact done N3 q2 v2 f3 l3 (fun _ => (l5 v2 rfl).1)
    by_cases w13 : w = 1 ∨ w = 3
    · rw [ifp w13] at hs2
      cases hs2
      refine ⟨fun h => (by cases h), fun c hc => ?_⟩
      cases hc
      obtain ⟨N2, d1, d2, d3, d4⟩ := done N1 q 0 Fr.rf k3 (fun h => by omega)
      have e : f_m_says n w N1 = f_m_says_41 n w v N1 := by
        unfold f_m_says
        rw [ifn (by omega), ifp (by omega), v1]
      rw [e, d1, bnd_mk, ifn (show ¬ (1 : Int) = 0 by decide)]
      exact ⟨N2, rfl, d2, d3, by show w < 5; omega, d4⟩
    · rw [ifn w13] at hs2
      have hw02 : w = 0 ∨ w = 2 := by omega
      by_cases c32 : nx t m qq = 32
      · rw [ifp c32] at hs2
        rcases hh : sNum t m (decide (w = 0)) (qq + 1) with ⟨q2, r2⟩
        rw [hh] at hs2
        have S := says0 r2 q2 c32 hw02 hh
        cases r2 with
        | none =>
          have hs3 : (q2, (none : Option Cl)) = (q, r) := hs2
          cases hs3
          obtain ⟨N2, d1, d2, d3⟩ := S.1 rfl
          refine ⟨fun _ => ⟨N2, by rw [d1, bnd_mk, ifp rfl], d2, d3⟩, fun c hc => by cases hc⟩
        | some v2 =>
          have hs3 : (q2, some ((w, v, v2, []) : Cl)) = (q, r) := hs2
          cases hs3
          refine ⟨fun h => (by cases h), fun c hc => ?_⟩
          cases hc
          obtain ⟨N2, d1, d2, d3, d4⟩ := S.2 v2 rfl
          exact ⟨N2, by rw [d1, bnd_mk, ifn (show ¬ (1 : Int) = 0 by decide)], d2, d3, by show w < 5; omega, d4⟩
      · rw [ifn c32] at hs2
        cases hs2
        have e : f_m_says n w N1 = some (0, N1) := by
          unfold f_m_says f_m_says_14
          rw [v1, e_m_takes n k3 (by decide), ifn c32, bnd_mk, ifp rfl]
          rcases hw02 with z | z
          · subst z; rfl
          · subst z; rfl
        refine ⟨fun _ => ⟨N1, by rw [e, bnd_mk, ifp rfl], k3, f1⟩, fun c hc => by cases hc⟩
theorem e_m_takesClause (hn : 3000 ≤ n) {N : Mm} {k : Int} {p : Nat} (hR : RDt N t m p) (h32 : N 0 32 = k) : ∀ q r, sClause t m p = (q, r) → (r = none → ∃ N', f_m_takesClause n N = some (0, N') ∧ RDt N' t m q ∧ Fr cdR GOC N N') ∧ ∀ c, r = some c → ∃ N', f_m_takesClause n N = some (1, N') ∧ RDt N' t m q ∧ Fr cdR GOC N N' ∧ c.1 < 5 ∧ CLr N N' k c := by
  intro q r hs
  have hs' : (match sWord t m (wLet (wOf (nx t m p))) p with
    | (q, false) => (q, none)
    | (q, true) => sRest t m (wOf (nx t m p)) q) = (q, r) := hs
  -- with numbers
  have num : ∀ (w : Nat), w < 4 → wOf (nx t m p) = w → (f_m_takesClause n N = bnd (f_m_takesWord n (wdI w) (wdL w) N) (fun r3 M3 => if r3 = 0 then some (0, M3) else (bnd (f_m_takesNumber n 0 M3) (fun r5 M5 => if r5 = 0 then some (0, M5) else (bnd (f_m_says n w M5) (fun r7 M7 => if r7 = 0 then some (0, M7) else (some (1, M7)))))))) → (r = none → ∃ N', f_m_takesClause n N = some (0, N') ∧ RDt N' t m q ∧ Fr cdR GOC N N') ∧ ∀ c, r = some c → ∃ N', f_m_takesClause n N = some (1, N') ∧ RDt N' t m q ∧ Fr cdR GOC N N' ∧ c.1 < 5 ∧ CLr N N' k c := fun w hw hwo e => by
    rw [hwo] at hs'
    obtain ⟨N1, q1, k1, k2, k3, k4⟩ := e_m_takesWord n hn hR w (by omega)
    rw [e, k1, bnd_mk]
    rcases hsw : sWord t m (wLet w) p with ⟨qq, b⟩
    rw [hsw] at hs' k2
    have k2' : q1 = qq := k2
    rw [k2'] at k3
    cases b with
    | false =>
      have hs2 : (qq, (none : Option Cl)) = (q, r) := hs'
      cases hs2
      refine ⟨fun _ => ⟨N1, by rw [ifn (show ¬ false = true by decide), ifp rfl], k3, k4.mono (by decide)⟩, fun c hc => by cases hc⟩
    | true =>
      have hs2 : sRest t m w qq = (q, r) := hs'
      rw [ifp (show true = true from rfl), ifn (show ¬ (1 : Int) = 0 by decide)]
      exact e_num hn k3 ((k4 0 32 rfl).trans h32) (k4.mono (by decide)) (fun w' => ⟨k4 17 w' rfl, k4 18 w' rfl, k4 19 w' rfl⟩) (k4 0 28 rfl) w hw q r hs2
  have slp : wOf (nx t m p) = 4 → f_m_takesClause n N = f_m_takesClause_188 n N → (r = none → ∃ N', f_m_takesClause n N = some (0, N') ∧ RDt N' t m q ∧ Fr cdR GOC N N') ∧ ∀ c, r = some c → ∃ N', f_m_takesClause n N = some (1, N') ∧ RDt N' t m q ∧ Fr cdR GOC N N' ∧ c.1 < 5 ∧ CLr N N' k c := fun hwo e => by
    rw [hwo] at hs'
    obtain ⟨N1, q1, k1, k2, k3, k4⟩ := e_m_takesWord n hn hR 4 (by decide)
    have k1' : f_m_takesWord n 20321456 5 N = _ := k1
    rw [e]
    unfold f_m_takesClause_188
    rw [k1', bnd_mk]
    rcases hsw : sWord t m (wLet 4) p with ⟨qq, b⟩
    rw [hsw] at hs' k2
    have k2' : q1 = qq := k2
    rw [k2'] at k3
    cases b with
    | false =>
      have hs2 : (qq, (none : Option Cl)) = (q, r) := hs'
      cases hs2
      refine ⟨fun _ => ⟨N1, by rw [ifn (show ¬ false = true by decide), ifp rfl], k3, k4.mono (by decide)⟩, fun c hc => by cases hc⟩
    | true =>
      have hs2 : (match sE t m 1000 0 0 qq with
        | (q', none) => (q', none)
        | (q', some c) => (q', some ((4, 0, 0, c) : Cl))) = (q, r) := hs'
      rw [ifp (show true = true from rfl), ifn (show ¬ (1 : Int) = 0 by decide)]
      rcases hh : sE t m 1000 0 0 qq with ⟨q2, r2⟩
      rw [hh] at hs2
      have T := e_m_takesE hn k3 q2 r2 hh
      cases r2 with
      | none =>
        have hs3 : (q2, (none : Option Cl)) = (q, r) := hs2
        cases hs3
        obtain ⟨N2, l1, l2, l3⟩ := T.1 rfl
        refine ⟨fun _ => ⟨N2, by rw [l1, bnd_mk, ifn (show ¬ (0 : Int) ≠ 0 by decide)], l2, (k4.mono (by decide)).trans (l3.mono (by decide))⟩, fun c hc => by cases hc⟩
      | some c2 =>
        have hs3 : (q2, some ((4, 0, 0, c2) : Cl)) = (q, r) := hs2
        cases hs3
        refine ⟨fun h => (by cases h), fun c hc => ?_⟩
        cases hc
        obtain ⟨N2, b, l1, l2, l3, l4, l5⟩ := T.2 c2 rfl
        have f2 : Fr cdR GOC N N2 := (k4.mono (by decide)).trans (l3.mono (by decide))
        have f28 : Fr cdR GOC N2 (mset N2 0 28 (N2 21 (0 : Int).toNat)) := Fr.rf.set rfl
        have e2 : f_m_says n 4 (mset N2 0 28 (N2 21 (0 : Int).toNat)) = f_m_says_41 n (4 : Nat) (N2 0 33) (mset N2 0 28 (N2 21 (0 : Int).toNat)) := by
          unfold f_m_says
          rw [ifn (show ¬ (4 : Int) = 0 by decide), ifp (show (4 : Int) ≠ 2 by decide), mg_j _ _ _ (show (33 : Nat) ≠ 28 by decide)]
          rfl
        rw [l1, bnd_mk, ifp (show (1 : Int) ≠ 0 by decide), e2, e_says41 4 (by decide), bnd_mk]
        have hR28 : RDt (mset N2 0 28 (N2 21 (0 : Int).toNat)) t m q := l2.fr (Fr.rf.set (c := cdR) (L := [1028]) (N1 := N2) (k := 0) (j := 28) (v := N2 21 (0 : Int).toNat) rfl) rfl rfl rfl rfl
        have b17 : N2 17 = N 17 := (l3.row (k := 17) (fun _ => rfl)).trans (k4.row (k := 17) (fun _ => rfl))
        have b18 : N2 18 = N 18 := (l3.row (k := 18) (fun _ => rfl)).trans (k4.row (k := 18) (fun _ => rfl))
        have b19 : N2 19 = N 19 := (l3.row (k := 19) (fun _ => rfl)).trans (k4.row (k := 19) (fun _ => rfl))
        have b32 : N2 0 32 = k := (l3 0 32 rfl).trans ((k4 0 32 rfl).trans h32)
        have b16 : N1 16 = N 16 := k4.row (k := 16) (fun _ => rfl)
        refine ⟨_, rfl, hR28.fr (says_fr 4 _ _ _ _) rfl rfl rfl rfl, (f2.trans f28).trans ((says_fr 4 _ _ _ _).mono (by decide)), by show 4 < 5; decide, fun w' hw' => ?_, ?_, fun w' hw' => ⟨?_, ?_⟩, fun h => absurd rfl h, fun _ => ?_⟩
        · rw [says_17, mg_j _ _ _ hw', mg_k _ _ _ (by decide), b17]
        · rw [says_17, mg_s, mg_j _ _ _ (by decide)]; exact b32
        · rw [says_18, mg_j _ _ _ hw', mg_k _ _ _ (by decide), mg_k _ _ _ (by decide), b18]
        · rw [mg_j _ _ _ hw', mg_k _ _ _ (by decide), mg_k _ _ _ (by decide), mg_k _ _ _ (by decide), b19]
        · rw [mg_k _ _ _ (by decide), mg_k _ _ _ (by decide), mg_k _ _ _ (by decide), mg_s]
          show N2 21 0 = if evB (N 16) c2 = true then 1 else 0
          rw [l4, l5, b16]
  have e0 : f_m_takesClause n N = _ := rfl
  unfold f_m_takesClause at e0
  rw [e_m_next n hR, bnd_mk] at e0
  unfold f_m_takesClause_186 f_m_takesClause_120 f_m_takesClause_87 f_m_takesClause_153 at e0
  by_cases c103 : nx t m p = 103
  · refine num 3 (by decide) (by rw [c103]; decide) ?_
    unfold f_m_takesClause f_m_takesClause_186
    rw [e_m_next n hR, bnd_mk, ifp c103]
    rfl
  · by_cases c109 : nx t m p = 109
    · refine num 1 (by decide) (by rw [c109]; decide) ?_
      unfold f_m_takesClause f_m_takesClause_120
      rw [e_m_next n hR, bnd_mk, ifn c103, ifn (by omega), ifn (by omega), ifn (by omega), ifn (by omega), ifn (by omega), ifp c109]
      rfl
    · by_cases c110 : nx t m p = 110
      · refine num 0 (by decide) (by rw [c110]; decide) ?_
        unfold f_m_takesClause f_m_takesClause_87
        rw [e_m_next n hR, bnd_mk, ifn c103, ifn (by omega), ifn (by omega), ifn (by omega), ifn (by omega), ifn (by omega), ifn c109, ifp c110]
        rfl
      · by_cases c111 : nx t m p = 111
        · refine num 2 (by decide) (by rw [c111]; decide) ?_
          unfold f_m_takesClause f_m_takesClause_153
          rw [e_m_next n hR, bnd_mk, ifn c103, ifn (by omega), ifn (by omega), ifn (by omega), ifn (by omega), ifn (by omega), ifn c109, ifn c110, ifp c111]
          rfl
        · refine slp (by unfold wOf; rw [ifn c110, ifn c109, ifn c111, ifn c103]) ?_
          unfold f_m_takesClause
          rw [e_m_next n hR, bnd_mk, ifn c103, ifn c109, ifn c110, ifn c111]
          repeat' split
          all_goals rfl
end
