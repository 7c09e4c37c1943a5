/-! The reference's two stacks. -/
def stk (r : Nat → Int) : List Int → Prop
  | [] => True
  | x :: W => r W.length = x ∧ stk r W
def stBo (r : Nat → Int) : List Bool → Prop
  | [] => True
  | b :: P => r P.length = (if b = true then 1 else 0) ∧ stBo r P
def opn : List Int → Nat
  | [] => 0
  | x :: W => (if x = 33 ∨ x = 40 then 1 else 0) + opn W
theorem stk_ge {r r' : Nat → Int} : ∀ {W : List Int}, (∀ i, i < W.length → r' i = r i) → stk r W → stk r' W
  | [], _, _ => trivial
  | x :: W, h, hs => ⟨(h W.length (by show W.length < W.length + 1; omega)).trans hs.1, stk_ge (fun i hi => h i (by show i < W.length + 1; omega)) hs.2⟩
theorem stBo_ge {r r' : Nat → Int} : ∀ {P : List Bool}, (∀ i, i < P.length → r' i = r i) → stBo r P → stBo r' P
  | [], _, _ => trivial
  | x :: P, h, hs => ⟨(h P.length (by show P.length < P.length + 1; omega)).trans hs.1, stBo_ge (fun i hi => h i (by show i < P.length + 1; omega)) hs.2⟩
/-- a value goes on the pile, through the NOTs that wait -/
def PUv : List Int → List Bool → Bool → List Int × List Bool
  | [], P, v => ([], v :: P)
  | x :: W, P, v => if x = 33 then PUv W P (!v) else (x :: W, v :: P)
section
variable {t : Nat → Int} {m : Nat} {N : Mm}
def SEL : List Nat := [1031, 1033, 1036, 1037, 1038, 20, 21]
def ESt (N : Mm) (t : Nat → Int) (m p : Nat) (W : List Int) (P : List Bool) : Prop :=
  RDt N t m p ∧ N 0 36 = (W.length : Int) ∧ N 0 37 = (P.length : Int) ∧ N 0 38 = (opn W : Int) ∧ stk (N 20) W ∧ stBo (N 21) P ∧ W.length ≤ p ∧ P.length ≤ p
theorem opn_le : ∀ W : List Int, opn W ≤ W.length
  | [] => Nat.le_refl 0
  | x :: W => by
    have := opn_le W
    show (if x = 33 ∨ x = 40 then 1 else 0) + opn W ≤ W.length + 1
    split <;> omega
theorem PUv_len : ∀ (W : List Int) (P : List Bool) (v : Bool), (PUv W P v).1.length ≤ W.length ∧ (PUv W P v).2.length = P.length + 1
  | [], P, v => ⟨Nat.le_refl _, rfl⟩
  | x :: W, P, v => by
    unfold PUv
    by_cases c : x = 33
    · rw [ifp c]
      have := PUv_len W P (!v)
      exact ⟨by show _ ≤ W.length + 1; omega, this.2⟩
    · rw [ifn c]; exact ⟨Nat.le_refl _, rfl⟩
theorem e_m_push (n : Nat) (hn : 3000 ≤ n) {p : Nat} : ∀ (W : List Int) (P : List Bool) (v : Bool) (g : Nat) (N : Mm), ESt N t m p W P → P.length + 1 ≤ p → W.length < g → ∃ N', lp_m_push_2 n g (if v = true then 1 else 0) N = some (0, N') ∧ ESt N' t m p (PUv W P v).1 (PUv W P v).2 ∧ Fr cdR SEL N N' := by
  have put : ∀ (W : List Int) (P : List Bool) (v : Bool) (N : Mm), ESt N t m p W P → P.length + 1 ≤ p → ∃ N', f_m_push_58 n (if v = true then 1 else 0) N = some (0, N') ∧ ESt N' t m p W (v :: P) ∧ Fr cdR SEL N N' := fun W P v N h hp => by
    obtain ⟨h1, h2, h3, h4, h5, h6, h7, h8⟩ := h
    have hi := h1.in.1
    unfold f_m_push_58
    rw [h3, ckp (by omega), Int.toNat_natCast, mg_k _ _ _ (show (0 : Nat) ≠ 21 by decide), h3, w_succ (by omega)]
    have fr : Fr cdR SEL N (mset (mset N 21 P.length (if v = true then 1 else 0)) 0 37 ((P.length + 1 : Nat) : Int)) := (Fr.rf.set rfl).set rfl
    refine ⟨_, rfl, ⟨?_, ?_, mg_s _ _ _ _, ?_, ?_, ?_, h7, hp⟩, fr⟩
    · exact h1.fr ((Fr.rf.set (c := cdR) (L := [21, 1037]) (N1 := N) (k := 21) (j := P.length) (v := if v = true then 1 else 0) rfl).set (k := 0) (j := 37) (v := ((P.length + 1 : Nat) : Int)) rfl) rfl rfl rfl rfl
    · rw [mg_j _ _ _ (by decide), mg_k _ _ _ (by decide)]; exact h2
    · rw [mg_j _ _ _ (by decide), mg_k _ _ _ (by decide)]; exact h4
    · rw [mg_k _ _ _ (by decide), mg_k _ _ _ (by decide)]; exact h5
    · rw [mg_k _ _ _ (by decide)]
      exact ⟨mg_s _ _ _ _, stBo_ge (fun i hi => mg_j _ _ _ (by omega)) h6⟩
  intro W
  induction W with
  | nil =>
    intro P v g N h hp hg
    obtain ⟨g', rfl, _⟩ := f_pos (show 0 < g by omega)
    show ∃ N', f_m_push_2 n (lp_m_push_2 n g') _ N = _ ∧ _
    unfold f_m_push_2
    rw [ifp (by rw [h.2.1]; exact Int.le_refl 0)]
    exact put [] P v N h hp
  | cons x W ih =>
    intro P v g N h hp hg
    have hlen : (x :: W).length = W.length + 1 := rfl
    obtain ⟨g', rfl, hg'⟩ := f_pos (show 0 < g by omega)
    show ∃ N', f_m_push_2 n (lp_m_push_2 n g') _ N = _ ∧ _
    obtain ⟨h1, h2, h3, h4, h5, h6, h7, h8⟩ := id h
    have hi := h1.in.1
    have ho : opn (x :: W) = (if x = 33 ∨ x = 40 then 1 else 0) + opn W := rfl
    unfold f_m_push_2 PUv
    rw [h2, hlen, ifn (by omega), show w32 (((W.length + 1 : Nat) : Int) - 1) = (W.length : Int) by rw [w32_s (by omega) (by omega)]; omega, ckp (by omega), Int.toNat_natCast, h5.1]
    by_cases c : x = 33
    · rw [ifn (fun z => z c), ifp c]
      rw [ifp (Or.inl c)] at ho
      have hol := opn_le W
      have tail : ∀ b : Bool, ∃ N', f_m_push_34 n (lp_m_push_2 n g') (if b = true then 1 else 0) N = some (0, N') ∧ ESt N' t m p (PUv W P b).1 (PUv W P b).2 ∧ Fr cdR SEL N N' := fun b => by
        unfold f_m_push_34
        rw [h2, hlen, show w32 (((W.length + 1 : Nat) : Int) - 1) = (W.length : Int) by rw [w32_s (by omega) (by omega)]; omega, mg_j _ _ _ (show (38 : Nat) ≠ 36 by decide), h4, ho, show w32 (((1 + opn W : Nat) : Int) - 1) = (opn W : Int) by rw [w32_s (by omega) (by omega)]; omega]
        have fr : Fr cdR SEL N (mset (mset N 0 36 (W.length : Int)) 0 38 (opn W : Int)) := (Fr.rf.set rfl).set rfl
        obtain ⟨N2, k1, k2, k3⟩ := ih P b g' (mset (mset N 0 36 (W.length : Int)) 0 38 (opn W : Int)) ⟨h1.fr ((Fr.rf.set (c := cdR) (L := [1036, 1038]) (N1 := N) (k := 0) (j := 36) (v := (W.length : Int)) rfl).set (k := 0) (j := 38) (v := (opn W : Int)) rfl) rfl rfl rfl rfl, by rw [mg_j _ _ _ (by decide), mg_s], by rw [mg_j _ _ _ (by decide), mg_j _ _ _ (by decide)]; exact h3, mg_s _ _ _ _, by rw [mg_k _ _ _ (by decide), mg_k _ _ _ (by decide)]; exact h5.2, by rw [mg_k _ _ _ (by decide), mg_k _ _ _ (by decide)]; exact h6, by omega, h8⟩ hp (by omega)
        exact ⟨N2, k1, k2, fr.trans k3⟩
      cases v with
      | true => rw [ifp (show (if true = true then (1 : Int) else 0) ≠ 0 by decide)]; exact tail false
      | false => rw [ifn (show ¬ (if false = true then (1 : Int) else 0) ≠ 0 by decide)]; exact tail true
    · rw [ifp c, ifn c]
      exact put (x :: W) P v N h hp
/-- one that waits is done -/
theorem settle_1 (n g : Nat) {p : Nat} {W : List Int} {P : List Bool} {x y : Bool} {s c : Int} (h : ESt N t m p (c :: W) (y :: x :: P)) (hc : c = 38 ∨ (c = 124 ∧ s ≠ 38)) : ∃ N', lp_m_settle_0 n (g + 1) s N = lp_m_settle_0 n g s N' ∧ ESt N' t m p W ((if c = 38 then x && y else x || y) :: P) ∧ Fr cdR SEL N N' := by
  obtain ⟨h1, h2, h3, h4, h5, h6, h7, h8⟩ := h
  have hi := h1.in.1
  have e36 : N 0 36 = ((W.length + 1 : Nat) : Int) := h2
  have e37 : N 0 37 = ((P.length + 2 : Nat) : Int) := h3
  have h7' : W.length + 1 ≤ p := h7
  have h8' : P.length + 2 ≤ p := h8
  have ho : opn (c :: W) = opn W := by
    show (if c = 33 ∨ c = 40 then 1 else 0) + opn W = opn W
    rw [ifn (by omega), Nat.zero_add]
  have w1 : w32 (((W.length + 1 : Nat) : Int) - 1) = (W.length : Int) := by rw [w32_s (by omega) (by omega)]; omega
  have w2 : w32 (((P.length + 2 : Nat) : Int) - 1) = ((P.length + 1 : Nat) : Int) := by rw [w32_s (by omega) (by omega)]; omega
  have w3 : w32 (((P.length + 1 : Nat) : Int) - 1) = (P.length : Int) := by rw [w32_s (by omega) (by omega)]; omega
  have t1 : N 20 W.length = c := h5.1
  have t2 : N 21 (P.length + 1) = if y = true then 1 else 0 := h6.1
  have t3 : N 21 P.length = if x = true then 1 else 0 := h6.2.1
  have fin : ∀ b : Bool, (if c = 38 then x && y else x || y) = b → ∃ N', f_m_settle_154 n (lp_m_settle_0 n g) s (P.length : Int) (if b = true then 1 else 0) (mset (mset N 0 36 (W.length : Int)) 0 37 ((P.length + 1 : Nat) : Int)) = lp_m_settle_0 n g s N' ∧ ESt N' t m p W ((if c = 38 then x && y else x || y) :: P) ∧ Fr cdR SEL N N' := fun b hb => by
    unfold f_m_settle_154
    rw [ckp (by omega), Int.toNat_natCast, hb]
    have fr : Fr cdR SEL N (mset (mset (mset N 0 36 (W.length : Int)) 0 37 ((P.length + 1 : Nat) : Int)) 21 P.length (if b = true then 1 else 0)) := ((Fr.rf.set rfl).set rfl).set rfl
    refine ⟨_, rfl, ⟨?_, ?_, ?_, ?_, ?_, ?_, by omega, by show P.length + 1 ≤ p; omega⟩, fr⟩
    · exact h1.fr (((Fr.rf.set (c := cdR) (L := [1036, 1037, 21]) (N1 := N) (k := 0) (j := 36) (v := (W.length : Int)) rfl).set (k := 0) (j := 37) (v := ((P.length + 1 : Nat) : Int)) rfl).set (k := 21) (j := P.length) (v := if b = true then 1 else 0) rfl) rfl rfl rfl rfl
    · rw [mg_k _ _ _ (by decide), mg_j _ _ _ (by decide), mg_s]
    · rw [mg_k _ _ _ (by decide), mg_s]; rfl
    · rw [mg_k _ _ _ (by decide), mg_j _ _ _ (by decide), mg_j _ _ _ (by decide), h4, ho]
    · rw [mg_k _ _ _ (by decide), mg_k _ _ _ (by decide), mg_k _ _ _ (by decide)]; exact h5.2
    · exact ⟨mg_s _ _ _ _, stBo_ge (fun i hi => by rw [mg_j _ _ _ (by omega), mg_k _ _ _ (by decide), mg_k _ _ _ (by decide)]) h6.2.2⟩
  have m37 : mset N 0 36 (W.length : Int) 0 37 = ((P.length + 2 : Nat) : Int) := by rw [mg_j _ _ _ (by decide)]; exact e37
  have k36 : mset (mset N 0 36 (W.length : Int)) 0 37 ((P.length + 1 : Nat) : Int) 0 36 = (W.length : Int) := by rw [mg_j _ _ _ (by decide), mg_s]
  have k37 : mset (mset N 0 36 (W.length : Int)) 0 37 ((P.length + 1 : Nat) : Int) 0 37 = ((P.length + 1 : Nat) : Int) := mg_s _ _ _ _
  have k20 : mset (mset N 0 36 (W.length : Int)) 0 37 ((P.length + 1 : Nat) : Int) 20 W.length = c := by rw [mg_k _ _ _ (by decide), mg_k _ _ _ (by decide)]; exact t1
  have k21a : mset (mset N 0 36 (W.length : Int)) 0 37 ((P.length + 1 : Nat) : Int) 21 (P.length + 1) = if y = true then 1 else 0 := by rw [mg_k _ _ _ (by decide), mg_k _ _ _ (by decide)]; exact t2
  have k21b : mset (mset N 0 36 (W.length : Int)) 0 37 ((P.length + 1 : Nat) : Int) 21 P.length = if x = true then 1 else 0 := by rw [mg_k _ _ _ (by decide), mg_k _ _ _ (by decide)]; exact t3
  have main : ∃ N', f_m_settle_45 n (lp_m_settle_0 n g) s N = lp_m_settle_0 n g s N' ∧ ESt N' t m p W ((if c = 38 then x && y else x || y) :: P) ∧ Fr cdR SEL N N' := by
    unfold f_m_settle_45
    simp only [e36, w1, m37, w2, k36, k37, w3, Int.toNat_natCast, k20, k21a, k21b, ckp (show (0 : Int) ≤ (W.length : Int) ∧ (W.length : Int) < 101 by omega), ckp (show (0 : Int) ≤ (P.length : Int) ∧ (P.length : Int) < 101 by omega), ckp (show (0 : Int) ≤ ((P.length + 1 : Nat) : Int) ∧ ((P.length + 1 : Nat) : Int) < 101 by omega)]
    by_cases c38 : c = 38
    · rw [ifn (fun z => z c38)]
      cases x with
      | false =>
        rw [ifp (show (if false = true then (1 : Int) else 0) = 0 by decide)]
        exact fin false (by rw [ifp c38]; rfl)
      | true =>
        rw [ifn (show ¬ (if true = true then (1 : Int) else 0) = 0 by decide)]
        cases y with
        | false =>
          rw [ifp (show (if false = true then (1 : Int) else 0) = 0 by decide)]
          exact fin false (by rw [ifp c38]; rfl)
        | true =>
          rw [ifn (show ¬ (if true = true then (1 : Int) else 0) = 0 by decide)]
          exact fin true (by rw [ifp c38]; rfl)
    · rw [ifp c38]
      cases x with
      | true =>
        rw [ifp (show (if true = true then (1 : Int) else 0) ≠ 0 by decide)]
        exact fin true (by rw [ifn c38]; rfl)
      | false =>
        rw [ifn (show ¬ (if false = true then (1 : Int) else 0) ≠ 0 by decide)]
        cases y with
        | false =>
          rw [ifp (show (if false = true then (1 : Int) else 0) = 0 by decide)]
          exact fin false (by rw [ifn c38]; rfl)
        | true =>
          rw [ifn (show ¬ (if true = true then (1 : Int) else 0) = 0 by decide)]
          exact fin true (by rw [ifn c38]; rfl)
  show ∃ N', f_m_settle_0 n (lp_m_settle_0 n g) s N = _ ∧ _
  unfold f_m_settle_0
  rw [e36, ifn (by omega), w1, ckp (by omega), Int.toNat_natCast, t1]
  by_cases c38 : c = 38
  · rw [ifp c38]; exact main
  · have c124 := hc.resolve_left c38
    rw [ifn c38, ckp (by omega), ifn (fun z => z c124.1), ifn c124.2]
    exact main
theorem settle_0 (n g : Nat) {p : Nat} {W : List Int} {P : List Bool} {s : Int} (h : ESt N t m p W P) (hc : ∀ c W', W = c :: W' → c ≠ 38 ∧ (c = 124 → s = 38)) : lp_m_settle_0 n (g + 1) s N = some (0, N) := by
  obtain ⟨h1, h2, h3, h4, h5, h6, h7, h8⟩ := h
  have hi := h1.in.1
  show f_m_settle_0 n (lp_m_settle_0 n g) s N = _
  unfold f_m_settle_0
  cases W with
  | nil => rw [ifp (by rw [h2]; exact Int.le_refl 0)]
  | cons c W =>
    have q := hc c W rfl
    have e36 : N 0 36 = ((W.length + 1 : Nat) : Int) := h2
    have h7' : W.length + 1 ≤ p := h7
    have t1 : N 20 W.length = c := h5.1
    rw [e36, ifn (by omega), show w32 (((W.length + 1 : Nat) : Int) - 1) = (W.length : Int) by rw [w32_s (by omega) (by omega)]; omega, ckp (by omega), Int.toNat_natCast, t1, ifn q.1, ckp (by omega)]
    by_cases c124 : c = 124
    · rw [ifn (fun z => z c124), ifp (q.2 c124)]
    · rw [ifp c124]
end
