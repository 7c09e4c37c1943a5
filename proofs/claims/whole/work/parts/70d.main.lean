/-! The reference's expressions are the plain ones. -/
section
variable {t : Nat → Int} {m : Nat} {N : Mm}
theorem E_join (n g : Nat) {p : Nat} {W1 : List Int} {P1 : List Bool} {N1 : Mm} (hR : RDt N t m p) (hc : nx t m p = 38 ∨ nx t m p = 124) (hS : f_m_settle n (nx t m p) N = some (0, N1)) (h1 : ESt N1 t m p W1 P1) (hf : Fr cdR SEL N N1) : ∃ N', lp_m_takesE_17 n (g + 1) 0 N = lp_m_takesE_17 n g 1 N' ∧ ESt N' t m (p + 1) (nx t m p :: W1) P1 ∧ Fr cdR SEL N N' := by
  have hi := hR.in.1
  have hlt : p < m := nx_lt rfl (show nx t m p ≠ -1 by omega)
  have e : lp_m_takesE_17 n (g + 1) 0 N = f_m_takesE_117 n (lp_m_takesE_17 n g) (nx t m p) N := by
    show f_m_takesE_17 n (lp_m_takesE_17 n g) 0 N = _
    unfold f_m_takesE_17
    rw [e_m_next n hR, bnd_mk, ifp rfl]
    rcases hc with q | q
    · rw [ifp q]
    · rw [ifn (by omega), ifn (fun z => z q)]
  obtain ⟨a1, a2, a3, a4, a5, a6, a7, a8⟩ := h1
  rw [e]
  unfold f_m_takesE_117
  rw [hS, bnd_mk, a2, ckp (by omega), Int.toNat_natCast]
  have b36 : mset N1 20 W1.length (nx t m p) 0 36 = (W1.length : Int) := by rw [mg_k _ _ _ (by decide)]; exact a2
  rw [b36, w_succ (by omega)]
  have b31 : mset (mset N1 20 W1.length (nx t m p)) 0 36 ((W1.length + 1 : Nat) : Int) 0 31 = (p : Int) := by rw [mg_j _ _ _ (by decide), mg_k _ _ _ (by decide)]; exact a1.in.2.1
  rw [b31, w_succ (by omega)]
  refine ⟨_, rfl, ⟨?_, ?_, ?_, ?_, ?_, ?_, by show W1.length + 1 ≤ p + 1; omega, by omega⟩, hf.trans (((Fr.rf.set rfl).set rfl).set rfl)⟩
  · exact (a1.fr ((Fr.rf.set (c := cdR) (L := [20, 1036]) (N1 := N1) (k := 20) (j := W1.length) (v := nx t m p) rfl).set (k := 0) (j := 36) (v := ((W1.length + 1 : Nat) : Int)) rfl) rfl rfl rfl rfl).adv (by omega)
  · rw [mg_j _ _ _ (by decide), mg_s]; rfl
  · rw [mg_j _ _ _ (by decide), mg_j _ _ _ (by decide), mg_k _ _ _ (by decide)]; exact a3
  · rw [mg_j _ _ _ (by decide), mg_j _ _ _ (by decide), mg_k _ _ _ (by decide), a4]
    show (opn W1 : Int) = (((if nx t m p = 33 ∨ nx t m p = 40 then 1 else 0) + opn W1 : Nat) : Int)
    rw [ifn (by omega)]; omega
  · rw [mg_k _ _ _ (by decide), mg_k _ _ _ (by decide)]
    exact ⟨mg_s _ _ _ _, stk_ge (fun i hi => mg_j _ _ _ (by omega)) a5⟩
  · rw [mg_k _ _ _ (by decide), mg_k _ _ _ (by decide), mg_k _ _ _ (by decide)]; exact a6
theorem E_close (n g : Nat) (hn : 3000 ≤ n) {p : Nat} {W1 : List Int} {P1 : List Bool} {N1 : Mm} (hR : RDt N t m p) (hc : nx t m p ≠ 38 ∧ nx t m p ≠ 124) (hS : f_m_settle n 124 N = some (0, N1)) (h1 : ESt N1 t m p W1 P1) (hf : Fr cdR SEL N N1) : (W1 = [] → lp_m_takesE_17 n (g + 1) 0 N = some (1, N1)) ∧ (W1 ≠ [] → nx t m p ≠ 41 → lp_m_takesE_17 n (g + 1) 0 N = some (0, N1)) ∧ (∀ W2 v P2, W1 = 40 :: W2 → P1 = v :: P2 → nx t m p = 41 → ∃ N', lp_m_takesE_17 n (g + 1) 0 N = lp_m_takesE_17 n g 0 N' ∧ ESt N' t m (p + 1) (PUv W2 P2 v).1 (PUv W2 P2 v).2 ∧ Fr cdR SEL N N') := by
  have hi := hR.in.1
  obtain ⟨a1, a2, a3, a4, a5, a6, a7, a8⟩ := h1
  have e : lp_m_takesE_17 n (g + 1) 0 N = f_m_takesE_17 n (lp_m_takesE_17 n g) 0 N := rfl
  rw [e]
  unfold f_m_takesE_17
  rw [e_m_next n hR, bnd_mk, ifp rfl, ifn hc.1, ifp hc.2, hS, bnd_mk, a2]
  refine ⟨fun q => by rw [q, ifn (show ¬ (([] : List Int).length : Int) ≠ 0 by decide)], fun q q41 => ?_, fun W2 v P2 q1 q2 q41 => ?_⟩
  · have : W1.length ≠ 0 := fun z => q (List.eq_nil_of_length_eq_zero z)
    rw [ifp (by omega), ifn q41]
  · subst q1
    subst q2
    have hlt : p < m := nx_lt rfl (show nx t m p ≠ -1 by omega)
    have hl : ((40 :: W2 : List Int).length) = W2.length + 1 := rfl
    have hlp : ((v :: P2 : List Bool).length) = P2.length + 1 := rfl
    have hol := opn_le W2
    have ho : opn (40 :: W2) = 1 + opn W2 := by
      show (if (40 : Int) = 33 ∨ (40 : Int) = 40 then 1 else 0) + opn W2 = _
      rw [ifp (Or.inr rfl)]
    rw [hl, ifp (by omega), ifp q41]
    have w1 : w32 (((W2.length + 1 : Nat) : Int) - 1) = (W2.length : Int) := by rw [w32_s (by omega) (by omega)]; omega
    have w2 : w32 (((1 + opn W2 : Nat) : Int) - 1) = (opn W2 : Int) := by rw [w32_s (by omega) (by omega)]; omega
    have w3 : w32 (((P2.length + 1 : Nat) : Int) - 1) = (P2.length : Int) := by rw [w32_s (by omega) (by omega)]; omega
    rw [w1]
    have b38 : mset N1 0 36 (W2.length : Int) 0 38 = ((1 + opn W2 : Nat) : Int) := by rw [mg_j _ _ _ (by decide), a4, ho]
    rw [b38, w2]
    have b37 : mset (mset N1 0 36 (W2.length : Int)) 0 38 (opn W2 : Int) 0 37 = ((P2.length + 1 : Nat) : Int) := by rw [mg_j _ _ _ (by decide), mg_j _ _ _ (by decide)]; exact a3
    rw [b37, w3]
    have b31 : mset (mset (mset N1 0 36 (W2.length : Int)) 0 38 (opn W2 : Int)) 0 37 (P2.length : Int) 0 31 = (p : Int) := by rw [mg_j _ _ _ (by decide), mg_j _ _ _ (by decide), mg_j _ _ _ (by decide)]; exact a1.in.2.1
    rw [b31, w_succ (by omega)]
    have c37 : mset (mset (mset (mset N1 0 36 (W2.length : Int)) 0 38 (opn W2 : Int)) 0 37 (P2.length : Int)) 0 31 ((p + 1 : Nat) : Int) 0 37 = (P2.length : Int) := by rw [mg_j _ _ _ (by decide), mg_s]
    rw [c37, ckp (by omega), Int.toNat_natCast]
    have c21 : mset (mset (mset (mset N1 0 36 (W2.length : Int)) 0 38 (opn W2 : Int)) 0 37 (P2.length : Int)) 0 31 ((p + 1 : Nat) : Int) 21 P2.length = (if v = true then 1 else 0) := by rw [mg_k _ _ _ (by decide), mg_k _ _ _ (by decide), mg_k _ _ _ (by decide), mg_k _ _ _ (by decide)]; exact a6.1
    rw [c21]
    have fr : Fr cdR SEL N1 (mset (mset (mset (mset N1 0 36 (W2.length : Int)) 0 38 (opn W2 : Int)) 0 37 (P2.length : Int)) 0 31 ((p + 1 : Nat) : Int)) := (((Fr.rf.set rfl).set rfl).set rfl).set rfl
    obtain ⟨N3, z1, z2, z3⟩ := e_m_push (t := t) (m := m) (p := p + 1) n hn W2 P2 v n (mset (mset (mset (mset N1 0 36 (W2.length : Int)) 0 38 (opn W2 : Int)) 0 37 (P2.length : Int)) 0 31 ((p + 1 : Nat) : Int)) ⟨(a1.fr (((Fr.rf.set (c := cdR) (L := [1036, 1038, 1037]) (N1 := N1) (k := 0) (j := 36) (v := (W2.length : Int)) rfl).set (k := 0) (j := 38) (v := (opn W2 : Int)) rfl).set (k := 0) (j := 37) (v := (P2.length : Int)) rfl) rfl rfl rfl rfl).adv (by omega), by rw [mg_j _ _ _ (by decide), mg_j _ _ _ (by decide), mg_j _ _ _ (by decide), mg_s], c37, by rw [mg_j _ _ _ (by decide), mg_j _ _ _ (by decide), mg_s], by rw [mg_k _ _ _ (by decide), mg_k _ _ _ (by decide), mg_k _ _ _ (by decide), mg_k _ _ _ (by decide)]; exact a5.2, by rw [mg_k _ _ _ (by decide), mg_k _ _ _ (by decide), mg_k _ _ _ (by decide), mg_k _ _ _ (by decide)]; exact a6.2, by omega, by omega⟩ (by omega) (by omega)
    have z1' : f_m_push n (if v = true then 1 else 0) _ = _ := z1
    rw [z1', bnd_mk]
    exact ⟨N3, rfl, z2, (hf.trans fr).trans z3⟩
/-- a value, with what waits behind it -/
def PD4 (W : List Int) (P : List Bool) (a : Bool) (V : List Int) (Q : List Bool) : Prop := (V = W ∧ Q = a :: P) ∨ ∃ x y, V = 38 :: W ∧ Q = y :: x :: P ∧ (x && y) = a
def PD3 (W : List Int) (P : List Bool) (a : Bool) (V : List Int) (Q : List Bool) : Prop := PD4 W P a V Q ∨ ∃ x y, PD4 (124 :: W) (x :: P) y V Q ∧ (x || y) = a
theorem settle_4 (n : Nat) (hn : 3000 ≤ n) {p : Nat} {W V : List Int} {P Q : List Bool} {a : Bool} (hW : ∀ c W', W = c :: W' → c ≠ 38) (hP : PD4 W P a V Q) (h : ESt N t m p V Q) : ∃ N', f_m_settle n 38 N = some (0, N') ∧ ESt N' t m p W (a :: P) ∧ Fr cdR SEL N N' := by
  obtain ⟨g, rfl⟩ : ∃ g, n = g + 2 := ⟨n - 2, by omega⟩
  rcases hP with ⟨q1, q2⟩ | ⟨x, y, q1, q2, q3⟩
  · subst q1; subst q2
    exact ⟨N, settle_0 (g + 2) (g + 1) h fun c W' e => ⟨hW c W' e, fun _ => rfl⟩, h, Fr.rf⟩
  · subst q1; subst q2
    obtain ⟨N1, k1, k2, k3⟩ := settle_1 (g + 2) (g + 1) (s := 38) h (Or.inl rfl)
    rw [ifp rfl, q3] at k2
    refine ⟨N1, ?_, k2, k3⟩
    show lp_m_settle_0 (g + 2) (g + 1 + 1) 38 N = _
    rw [k1]
    exact settle_0 (g + 2) g k2 fun c W' e => ⟨hW c W' e, fun _ => rfl⟩
theorem settle_3 (n : Nat) (hn : 3000 ≤ n) {p : Nat} {W V : List Int} {P Q : List Bool} {a : Bool} (hW : ∀ c W', W = c :: W' → c ≠ 38 ∧ c ≠ 124) (hP : PD3 W P a V Q) (h : ESt N t m p V Q) : ∃ N', f_m_settle n 124 N = some (0, N') ∧ ESt N' t m p W (a :: P) ∧ Fr cdR SEL N N' := by
  obtain ⟨g, rfl⟩ : ∃ g, n = g + 3 := ⟨n - 3, by omega⟩
  have stop : ∀ (g' : Nat) (N : Mm) (Q : List Bool), ESt N t m p W Q → lp_m_settle_0 (g + 3) (g' + 1) 124 N = some (0, N) := fun g' N Q h => settle_0 (g + 3) g' h fun c W' e => ⟨(hW c W' e).1, fun z => absurd z (hW c W' e).2⟩
  have step4 : ∀ (g' : Nat) (N : Mm) (W : List Int) (P : List Bool) (a : Bool) (V : List Int) (Q : List Bool), PD4 W P a V Q → ESt N t m p V Q → ∃ N' g'', lp_m_settle_0 (g + 3) (g' + 1) 124 N = lp_m_settle_0 (g + 3) g'' 124 N' ∧ (g'' = g' + 1 ∨ g'' = g') ∧ ESt N' t m p W (a :: P) ∧ Fr cdR SEL N N' := fun g' N W P a V Q hP h => by
    rcases hP with ⟨q1, q2⟩ | ⟨x, y, q1, q2, q3⟩
    · subst q1; subst q2
      exact ⟨N, g' + 1, rfl, Or.inl rfl, h, Fr.rf⟩
    · subst q1; subst q2
      obtain ⟨N1, k1, k2, k3⟩ := settle_1 (g + 3) g' (s := 124) h (Or.inl rfl)
      rw [ifp rfl, q3] at k2
      exact ⟨N1, g', k1, Or.inr rfl, k2, k3⟩
  rcases hP with hP | ⟨x, y, hP, q3⟩
  · obtain ⟨N1, g1, k1, k2, k3, k4⟩ := step4 (g + 2) N W P a V Q hP h
    refine ⟨N1, ?_, k3, k4⟩
    show lp_m_settle_0 (g + 3) (g + 2 + 1) 124 N = _
    rw [k1]
    rcases k2 with w | w
    · rw [w]; exact stop (g + 2) N1 _ k3
    · rw [w]; exact stop (g + 1) N1 _ k3
  · obtain ⟨N1, g1, k1, k2, k3, k4⟩ := step4 (g + 2) N (124 :: W) (x :: P) y V Q hP h
    obtain ⟨g1', hg1⟩ : ∃ g1', g1 = g1' + 2 := ⟨g1 - 2, by omega⟩
    subst hg1
    obtain ⟨N2, l1, l2, l3⟩ := settle_1 (g + 3) (g1' + 1) (s := 124) k3 (Or.inr ⟨rfl, by decide⟩)
    rw [ifn (show ¬ (124 : Int) = 38 by decide), q3] at l2
    refine ⟨N2, ?_, l2, k4.trans l3⟩
    show lp_m_settle_0 (g + 3) (g + 2 + 1) 124 N = _
    rw [k1, l1]
    exact stop g1' N2 _ l2
theorem PUv_t {W : List Int} (h : ∀ c W', W = c :: W' → c ≠ 33) (P : List Bool) (v : Bool) : PUv W P v = (W, v :: P) := by
  cases W with
  | nil => rfl
  | cons x W =>
    unfold PUv
    rw [ifn (h x W rfl)]
theorem PD4_opn {W V : List Int} {P Q : List Bool} {a : Bool} (h : PD4 W P a V Q) : opn V = opn W := by
  rcases h with ⟨q, _⟩ | ⟨x, y, q, _⟩
  · rw [q]
  · rw [q]
    show (if (38 : Int) = 33 ∨ (38 : Int) = 40 then 1 else 0) + opn W = opn W
    rw [ifn (by decide), Nat.zero_add]
theorem opn_op {c : Int} (hc : c = 38 ∨ c = 124) (W : List Int) : opn (c :: W) = opn W := by
  show (if c = 33 ∨ c = 40 then 1 else 0) + opn W = opn W
  rw [ifn (by omega), Nat.zero_add]
theorem opn_br {c : Int} (hc : c = 33 ∨ c = 40) (W : List Int) : opn (c :: W) = opn W + 1 := by
  show (if c = 33 ∨ c = 40 then 1 else 0) + opn W = opn W + 1
  rw [ifp hc, Nat.add_comm]
theorem evL_app (φ : Nat → Int) : ∀ (c c' : List Int) (st : List Bool), evL φ (c ++ c') st = evL φ c' (evL φ c st)
  | [], _, _ => rfl
  | op :: c, c', st => evL_app φ c c' (ev1 φ op st)
end
