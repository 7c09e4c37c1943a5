/-! The reference's expressions: its stacks against the plain way. -/
section
variable {t : Nat → Int} {m : Nat} {N : Mm}
theorem ESt.fr {p q : Nat} {W : List Int} {P : List Bool} {N' : Mm} (h : ESt N t m p W P) (f : Fr cdR [1031, 1033] N N') (hR : RDt N' t m q) (hq : p ≤ q) : ESt N' t m q W P :=
  ⟨hR, (f 0 36 rfl).trans h.2.1, (f 0 37 rfl).trans h.2.2.1, (f 0 38 rfl).trans h.2.2.2.1, by rw [f.row (k := 20) (fun _ => rfl)]; exact h.2.2.2.2.1, by rw [f.row (k := 21) (fun _ => rfl)]; exact h.2.2.2.2.2.1, by have := h.2.2.2.2.2.2.1; omega, by have := h.2.2.2.2.2.2.2; omega⟩
theorem sNum_ge (ab : Bool) (p : Nat) : p ≤ (sNum t m ab p).1 ∧ ((sNum t m ab p).2.isSome = true → p < (sNum t m ab p).1) := by
  unfold sNum
  repeat' split
  all_goals (constructor <;> intros <;> simp_all <;> omega)
theorem e_m_takesTest (n : Nat) (hn : 3000 ≤ n) {p : Nat} {W : List Int} {P : List Bool} (h : ESt N t m p W P) : (∀ q, sTest t m p = (q, none) → ∃ N', f_m_takesTest n N = some (0, N') ∧ RDt N' t m q ∧ Fr cdR SEL N N') ∧ (∀ q c, sTest t m p = (q, some c) → ∃ N' v, f_m_takesTest n N = some (1, N') ∧ ESt N' t m q (PUv W P v).1 (PUv W P v).2 ∧ Fr cdR SEL N N' ∧ (∀ st, evL (N 16) c st = v :: st) ∧ p < q ∧ q ≤ m) := by
  have hR := h.1
  have hi := hR.in.1
  have key : ∀ s0 : Int, s0 = lett (nx t m p) → f_m_takesTest n N = f_m_takesTest_56 n s0 N → (∀ q, sTest t m p = (q, none) → ∃ N', f_m_takesTest_56 n s0 N = some (0, N') ∧ RDt N' t m q ∧ Fr cdR SEL N N') ∧ (∀ q c, sTest t m p = (q, some c) → ∃ N' v, f_m_takesTest_56 n s0 N = some (1, N') ∧ ESt N' t m q (PUv W P v).1 (PUv W P v).2 ∧ Fr cdR SEL N N' ∧ (∀ st, evL (N 16) c st = v :: st) ∧ p < q ∧ q ≤ m) := by
    intro s0 hs0 _
    unfold f_m_takesTest_56 sTest
    rw [← hs0]
    by_cases c0 : s0 < 0
    · rw [ifp c0, ifn (by omega)]
      refine ⟨fun q hq => ?_, fun q c hq => by cases hq⟩
      cases hq
      exact ⟨N, rfl, hR, Fr.rf⟩
    · have hl5 : s0 < 5 ∧ p < m := by
        have hlt : nx t m p ≠ -1 := fun z => by
          rw [hs0, z] at c0
          exact c0 (by decide)
        refine ⟨?_, nx_lt rfl hlt⟩
        rw [hs0]; unfold lett
        repeat' split
        all_goals omega
      rw [ifn c0, ifp (show 0 ≤ s0 by omega), hR.in.2.1, w_succ (by omega)]
      have hR1 := hR.adv (q := p + 1) (by omega)
      have f1 : Fr cdR [1031, 1033] N (mset N 0 31 ((p + 1 : Nat) : Int)) := Fr.rf.set rfl
      generalize hN1 : mset N 0 31 ((p + 1 : Nat) : Int) = N1 at hR1 f1 ⊢
      rw [e_m_next n hR1, bnd_mk, e_m_in, bnd_mk]
      by_cases c1 : 60 ≤ nx t m (p + 1) ∧ nx t m (p + 1) ≤ 62
      · have hlt1 : p + 1 < m := nx_lt rfl (show nx t m (p + 1) ≠ -1 by omega)
        rw [ifp c1, ifp c1, n1, hR1.in.2.1, w_succ (by omega)]
        have hR2 := hR1.adv (q := p + 1 + 1) (by omega)
        have f2 : Fr cdR [1031, 1033] N (mset N1 0 31 ((p + 1 + 1 : Nat) : Int)) := f1.set rfl
        generalize hN2 : mset N1 0 31 ((p + 1 + 1 : Nat) : Int) = N2 at hR2 f2 ⊢
        obtain ⟨N3, q3, k1, k2, k3, k4, k5⟩ := e_m_takesNumber n hn hR2 false
        have k1' : f_m_takesNumber n 0 N2 = _ := k1
        have hge := sNum_ge (t := t) (m := m) false (p + 2)
        have e2 : sNum t m false (p + 1 + 1) = sNum t m false (p + 2) := rfl
        rw [e2] at k1' k2 k5
        have f3 := f2.trans k4
        rw [k1', bnd_mk]
        rcases hsn : sNum t m false (p + 2) with ⟨qq, r⟩
        rw [hsn] at k2 k5 hge
        cases r with
        | none =>
          refine ⟨fun q hq => ?_, fun q c hq => by cases hq⟩
          cases hq
          rw [ifn (show ¬ (none : Option Int).isSome = true by decide), n0]
          rw [k2] at k3
          exact ⟨N3, rfl, k3, f3.mono (by decide)⟩
        | some v =>
          refine ⟨fun q hq => (by cases hq), fun q c hq => ?_⟩
          obtain ⟨v1, v2, v3⟩ := k5 v rfl
          rw [ifp (show (some v).isSome = true from rfl), n1]
          rw [k2] at k3
          have hqq := hge.2 rfl
          have hq' : q = qq ∧ c = [s0 * 3000 + (nx t m (p + 1) - 60) * 1000 + v] := by cases hq; exact ⟨rfl, rfl⟩
          obtain ⟨rfl, rfl⟩ := hq'
          have hE3 : ESt N3 t m q W P := h.fr f3 k3 (by have : p + 2 < q := hqq; omega)
          have hφ : N3 16 = N 16 := f3.row (k := 16) (fun _ => rfl)
          obtain ⟨l, hl⟩ := nat_of (show 0 ≤ s0 by omega)
          have hWl : W.length < n := by have := h.2.2.2.2.2.2.1; omega
          have fin : ∀ b : Bool, tst (N 16) (s0 * 3000 + (nx t m (p + 1) - 60) * 1000 + v) = b → ∃ N' v', f_m_takesTest_185 n (if b = true then 1 else 0) N3 = some (1, N') ∧ ESt N' t m q (PUv W P v').1 (PUv W P v').2 ∧ Fr cdR SEL N N' ∧ (∀ st, evL (N 16) [s0 * 3000 + (nx t m (p + 1) - 60) * 1000 + v] st = v' :: st) ∧ p < q ∧ q ≤ m := fun b hb => by
            obtain ⟨N4, z1, z2, z3⟩ := e_m_push (t := t) (m := m) (p := q) n hn W P b n N3 hE3 (by have := h.2.2.2.2.2.2.2; have : p + 2 < q := hqq; omega) hWl
            refine ⟨N4, b, ?_, z2, (f3.mono (by decide)).trans z3, fun st => ?_, by have : p + 2 < q := hqq; omega, k3.in.1.2⟩
            · have z1' : f_m_push n (if b = true then 1 else 0) N3 = _ := z1
              unfold f_m_takesTest_185
              rw [z1', bnd_mk]
            · show ev1 (N 16) _ st = b :: st
              unfold ev1
              rw [ifp (by omega), hb]
          have hd : (s0 * 3000 + (nx t m (p + 1) - 60) * 1000 + v) % 3000 / 1000 = nx t m (p + 1) - 60 ∧ (s0 * 3000 + (nx t m (p + 1) - 60) * 1000 + v) / 3000 = s0 ∧ (s0 * 3000 + (nx t m (p + 1) - 60) * 1000 + v) % 1000 = v := by omega
          unfold tst at fin
          rw [hd.1, hd.2.1, hd.2.2] at fin
          rw [v1, hφ]
          by_cases q60 : nx t m (p + 1) = 60
          · rw [ifn (fun z => z q60), ckp (by omega)]
            rw [ifp (by omega)] at fin
            by_cases w : v ≤ N 16 s0.toNat
            · rw [ifp w]; exact fin false (decide_eq_false (by omega))
            · rw [ifn w]; exact fin true (decide_eq_true (by omega))
          · rw [ifp q60]
            rw [ifn (show ¬ nx t m (p + 1) - 60 = 0 by omega)] at fin
            by_cases q61 : nx t m (p + 1) = 61
            · rw [ifn (fun z => z q61), ckp (by omega)]
              rw [ifp (by omega)] at fin
              by_cases w : N 16 s0.toNat = v
              · rw [ifn (fun z => z w)]; exact fin true (decide_eq_true w)
              · rw [ifp w]; exact fin false (decide_eq_false w)
            · rw [ifp q61, ckp (by omega)]
              rw [ifn (show ¬ nx t m (p + 1) - 60 = 1 by omega)] at fin
              by_cases w : N 16 s0.toNat ≤ v
              · rw [ifp w]; exact fin false (decide_eq_false (by omega))
              · rw [ifn w]; exact fin true (decide_eq_true (by omega))
      · rw [ifn c1, ifn c1, n0]
        refine ⟨fun q hq => ?_, fun q c hq => by cases hq⟩
        cases hq
        exact ⟨N1, rfl, hR1, f1.mono (by decide)⟩
  have hl : ∀ s0 : Int, f_m_takesTest n N = f_m_takesTest_56 n s0 N → s0 = lett (nx t m p) → (∀ q, sTest t m p = (q, none) → ∃ N', f_m_takesTest n N = some (0, N') ∧ RDt N' t m q ∧ Fr cdR SEL N N') ∧ (∀ q c, sTest t m p = (q, some c) → ∃ N' v, f_m_takesTest n N = some (1, N') ∧ ESt N' t m q (PUv W P v).1 (PUv W P v).2 ∧ Fr cdR SEL N N' ∧ (∀ st, evL (N 16) c st = v :: st) ∧ p < q ∧ q ≤ m) := fun s0 h1 h2 => by
    have := key s0 h2 h1
    rw [h1]; exact this
  unfold lett at hl
  have e0 : f_m_takesTest n N = (if nx t m p ≠ 107 then if nx t m p ≠ 104 then if nx t m p ≠ 100 then if nx t m p ≠ 112 then if nx t m p ≠ 118 then f_m_takesTest_56 n (-1) N else (f_m_takesTest_56 n 4 N) else (f_m_takesTest_56 n 3 N) else (f_m_takesTest_56 n 2 N) else (f_m_takesTest_56 n 1 N) else (f_m_takesTest_56 n 0 N)) := by
    unfold f_m_takesTest
    rw [e_m_next n hR, bnd_mk]
  by_cases c1 : nx t m p = 107
  · exact hl 0 (by rw [e0, ifn (fun z => z c1)]) (by rw [ifp c1])
  · by_cases c2 : nx t m p = 104
    · exact hl 1 (by rw [e0, ifp c1, ifn (fun z => z c2)]) (by rw [ifn c1, ifp c2])
    · by_cases c3 : nx t m p = 100
      · exact hl 2 (by rw [e0, ifp c1, ifp c2, ifn (fun z => z c3)]) (by rw [ifn c1, ifn c2, ifp c3])
      · by_cases c4 : nx t m p = 112
        · exact hl 3 (by rw [e0, ifp c1, ifp c2, ifp c3, ifn (fun z => z c4)]) (by rw [ifn c1, ifn c2, ifn c3, ifp c4])
        · by_cases c5 : nx t m p = 118
          · exact hl 4 (by rw [e0, ifp c1, ifp c2, ifp c3, ifp c4, ifn (fun z => z c5)]) (by rw [ifn c1, ifn c2, ifn c3, ifn c4, ifp c5])
          · exact hl (-1) (by rw [e0, ifp c1, ifp c2, ifp c3, ifp c4, ifp c5]) (by rw [ifn c1, ifn c2, ifn c3, ifn c4, ifn c5])
/-- a NOT or a bracket waits -/
theorem E_open (n g : Nat) {p : Nat} {W : List Int} {P : List Bool} (h : ESt N t m p W P) (hc : nx t m p = 33 ∨ nx t m p = 40) : (opn W = 4 → lp_m_takesE_17 n (g + 1) 1 N = some (0, N)) ∧ (opn W ≠ 4 → ∃ N', lp_m_takesE_17 n (g + 1) 1 N = lp_m_takesE_17 n g 1 N' ∧ ESt N' t m (p + 1) (nx t m p :: W) P ∧ Fr cdR SEL N N') := by
  obtain ⟨h1, h2, h3, h4, h5, h6, h7, h8⟩ := h
  have hi := h1.in.1
  have hlt : p < m := nx_lt rfl (show nx t m p ≠ -1 by omega)
  have hol := opn_le W
  have e : lp_m_takesE_17 n (g + 1) 1 N = f_m_takesE_38 n (lp_m_takesE_17 n g) 1 (nx t m p) N := by
    show f_m_takesE_17 n (lp_m_takesE_17 n g) 1 N = _
    unfold f_m_takesE_17
    rw [e_m_next n h1, bnd_mk, ifn (show ¬ (1 : Int) = 0 by decide)]
    rcases hc with q | q
    · rw [ifp q]
    · rw [ifn (by omega), ifn (fun z => z q)]
  rw [e]
  unfold f_m_takesE_38
  rw [h4]
  refine ⟨fun q => by rw [ifn (by omega)], fun q => ?_⟩
  rw [ifp (by omega), w_succ (by omega), mg_j _ _ _ (show (36 : Nat) ≠ 38 by decide), h2, ckp (by omega), Int.toNat_natCast]
  have a36 : mset (mset N 0 38 ((opn W + 1 : Nat) : Int)) 20 W.length (nx t m p) 0 36 = (W.length : Int) := by rw [mg_k _ _ _ (by decide), mg_j _ _ _ (by decide)]; exact h2
  rw [a36, w_succ (by omega)]
  have a31 : mset (mset (mset N 0 38 ((opn W + 1 : Nat) : Int)) 20 W.length (nx t m p)) 0 36 ((W.length + 1 : Nat) : Int) 0 31 = (p : Int) := by rw [mg_j _ _ _ (by decide), mg_k _ _ _ (by decide), mg_j _ _ _ (by decide)]; exact h1.in.2.1
  rw [a31, w_succ (by omega)]
  refine ⟨_, rfl, ⟨?_, ?_, ?_, ?_, ?_, ?_, by show W.length + 1 ≤ p + 1; omega, by omega⟩, (((Fr.rf.set rfl).set rfl).set rfl).set rfl⟩
  · exact (h1.fr (((Fr.rf.set (c := cdR) (L := [1038, 20, 1036]) (N1 := N) (k := 0) (j := 38) (v := ((opn W + 1 : Nat) : Int)) rfl).set (k := 20) (j := W.length) (v := nx t m p) rfl).set (k := 0) (j := 36) (v := ((W.length + 1 : Nat) : Int)) rfl) rfl rfl rfl rfl).adv (by omega)
  · rw [mg_j _ _ _ (by decide), mg_s]; rfl
  · rw [mg_j _ _ _ (by decide), mg_j _ _ _ (by decide), mg_k _ _ _ (by decide), mg_j _ _ _ (by decide)]; exact h3
  · rw [mg_j _ _ _ (by decide), mg_j _ _ _ (by decide), mg_k _ _ _ (by decide), mg_s]
    show ((opn W + 1 : Nat) : Int) = (((if nx t m p = 33 ∨ nx t m p = 40 then 1 else 0) + opn W : Nat) : Int)
    rw [ifp hc]; omega
  · rw [mg_k _ _ _ (by decide), mg_k _ _ _ (by decide)]
    exact ⟨mg_s _ _ _ _, stk_ge (fun i hi => by rw [mg_j _ _ _ (by omega), mg_k _ _ _ (by decide)]) h5⟩
  · rw [mg_k _ _ _ (by decide), mg_k _ _ _ (by decide), mg_k _ _ _ (by decide), mg_k _ _ _ (by decide)]; exact h6
end
