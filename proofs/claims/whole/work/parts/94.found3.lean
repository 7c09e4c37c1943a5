/-! found(..): the reference; the call. -/
section
variable {σ : Mm} {M N : Mm} {z : Int}
/-- labels, so far -/
def LBf (N σ : Mm) (z : Int) : Prop := ∀ h : Nat, (h : Int) < σ 0 1 → ∃ l : Nat, N 42 h = (l : Int) ∧ l ≤ h ∧ cnx σ z h l
/-- on the way through the pairs -/
def FW (N σ : Mm) (z : Int) (s0 fl : Int) (a b : Nat) : Prop := AgR N σ ∧ LBf N σ z ∧ (fl = 0 ∨ fl = 1) ∧ (fl = 0 → ∀ a' b' : Nat, a' < a ∨ (a' = a ∧ b' < b) → vas σ z a' b' → N 42 b' ≤ N 42 a') ∧ sm (σ 0 1).toNat (N 42) + fl ≤ s0
theorem l_m_found58 (n : Nat) (hn : 3000 ≤ n) (hI : Inv σ) (z s0 : Int) (k39 : Int → Int → Mm → Rr) (k47 : Int → Int → Int → Mm → Rr) {a : Nat} (ha : (a : Int) < σ 0 1) : ∀ (k b g : Nat) (fl : Int) (N : Mm), b + k = (σ 0 1).toNat → k < g → FW N σ z s0 fl a b → ∃ fl' N', lp_m_found_58 n k39 k47 g z fl a b N = k47 z fl' ((a + 1 : Nat) : Int) N' ∧ FW N' σ z s0 fl' (a + 1) 0 := by
  have bh := hI.1.2.1
  intro k
  induction k with
  | zero =>
    intro b g fl N hb hg hW
    obtain ⟨g', rfl, _⟩ := f_pos hg
    show ∃ fl' N', f_m_found_58 n k39 k47 (lp_m_found_58 n k39 k47 g') z fl a b N = _ ∧ _
    unfold f_m_found_58
    rw [ifp (by rw [hW.1 0 1 rfl]; omega), w_succ (by omega)]
    refine ⟨fl, N, rfl, hW.1, hW.2.1, hW.2.2.1, fun hf a' b' hc hv => hW.2.2.2.1 hf a' b' ?_ hv, hW.2.2.2.2⟩
    have := hv.2.1
    omega
  | succ k ih =>
    intro b g fl N hb hg hW
    obtain ⟨g', rfl, hg'⟩ := f_pos hg
    obtain ⟨hA, hL, hfl, hst, hsum⟩ := hW
    show ∃ fl' N', f_m_found_58 n k39 k47 (lp_m_found_58 n k39 k47 g') z fl a b N = _ ∧ _
    have a1 : N 0 1 = σ 0 1 := hA 0 1 rfl
    have aK : N 1 = σ 1 := hA.row (k := 1) (fun _ => rfl)
    have skip : (vas σ z a b → N 42 b ≤ N 42 a) → ∃ fl' N', lp_m_found_58 n k39 k47 g' z fl a ((b + 1 : Nat) : Int) N = k47 z fl' ((a + 1 : Nat) : Int) N' ∧ FW N' σ z s0 fl' (a + 1) 0 := fun q => ih (b + 1) g' fl N (by omega) hg' ⟨hA, hL, hfl, fun hf a' b' hc hv => by
      by_cases e : a' = a ∧ b' = b
      · rw [e.1, e.2] at hv ⊢; exact q hv
      · exact hst hf a' b' (by omega) hv, hsum⟩
    obtain ⟨la, la1, la2, la3⟩ := hL a ha
    obtain ⟨lb, lb1, lb2, lb3⟩ := hL b (by omega)
    have hnn := tmp_nn (σ := σ) a b
    unfold f_m_found_58 f_m_found_147
    rw [ifn (by rw [a1]; omega), w_succ (by omega)]
    by_cases e : a = b
    · rw [ifp (by omega)]
      exact skip fun q => absurd e q.2.2.1
    · rw [ifn (by omega), e_m_isPerson n N a (by omega), bnd_mk, e_m_isPerson n N b (by omega), bnd_mk, aK, Int.toNat_natCast, Int.toNat_natCast]
      by_cases h1 : σ 1 a = 2 ∨ σ 1 a = 3
      · rw [ifp h1, i1]
        by_cases h2 : σ 1 b = 2 ∨ σ 1 b = 3
        · rw [ifp h2, i1, ckp (by omega), ckp (by omega)]
          by_cases h3 : N 42 b ≤ N 42 a
          · rw [ifp h3]; exact skip fun _ => h3
          · rw [ifn h3, e_m_times n (by omega) hI hA (by omega) (by omega) 1 (Or.inr rfl), bnd_mk, ifp rfl]
            by_cases h4 : tms σ a b < z
            · rw [ifp h4]; exact skip fun q => by have := q.2.2.2.2.2.1; omega
            · rw [ifn h4, e_m_times n (by omega) hI hA (by omega) (by omega) 0 (Or.inl rfl), bnd_mk, ifn (show ¬ (0 : Int) = 1 by decide)]
              by_cases h5 : tmp σ a b ≤ 0
              · rw [ifp h5, ckp (by omega), ckp (by omega)]
                have hv : vas σ z a b := ⟨ha, by omega, e, decide_eq_true h1, decide_eq_true h2, by omega, h5⟩
                have fr : Fr cdR [42] N (mset N 42 b (N 42 a)) := Fr.rf.set rfl
                refine ih (b + 1) g' 1 (mset N 42 b (N 42 a)) (by omega) hg' ⟨hA.fr fr (by decide), fun h hh => ?_, Or.inr rfl, fun q => absurd q (by decide), ?_⟩
                · by_cases e2 : h = b
                  · subst e2
                    refine ⟨la, by rw [mg_s]; exact la1, by omega, cnx_tr (cnx_st (vas_sym hv)) la3⟩
                  · rw [mg_j _ _ _ e2]; exact hL h hh
                · have e3 : sm (σ 0 1).toNat (mset N 42 b (N 42 a) 42) = sm (σ 0 1).toNat (fun j => if j = b then N 42 a else N 42 j) := sm_congr fun j _ => by
                    rw [mg, ifp rfl]
                  rw [e3, sm_upd, ifp (by omega)]
                  rcases hfl with q | q <;> omega
              · rw [ifn h5]; exact skip fun q => absurd q.2.2.2.2.2.2 h5
        · rw [ifn h2, i0]; exact skip fun q => by have := of_decide_eq_true q.2.2.2.2.1; exact absurd this h2
      · rw [ifn h1, i0]; exact skip fun q => by have := of_decide_eq_true q.2.2.2.1; exact absurd this h1
theorem l_m_found47 (n : Nat) (hn : 3000 ≤ n) (hI : Inv σ) (z s0 : Int) (k39 : Int → Int → Mm → Rr) : ∀ (k a g : Nat) (fl : Int) (N : Mm), a + k = (σ 0 1).toNat → k < g → FW N σ z s0 fl a 0 → ∃ fl' N', lp_m_found_47 n k39 g z fl a N = k39 z fl' N' ∧ FW N' σ z s0 fl' (σ 0 1).toNat 0 := by
  have bh := hI.1.2.1
  intro k
  induction k with
  | zero =>
    intro a g fl N ha hg hW
    obtain ⟨g', rfl, _⟩ := f_pos hg
    have e : a = (σ 0 1).toNat := by omega
    subst e
    show ∃ fl' N', f_m_found_47 n k39 (lp_m_found_47 n k39 g') z fl _ N = _ ∧ _
    unfold f_m_found_47
    rw [ifp (by rw [hW.1 0 1 rfl]; omega)]
    exact ⟨fl, N, rfl, hW⟩
  | succ k ih =>
    intro a g fl N ha hg hW
    obtain ⟨g', rfl, hg'⟩ := f_pos hg
    show ∃ fl' N', f_m_found_47 n k39 (lp_m_found_47 n k39 g') z fl _ N = _ ∧ _
    obtain ⟨fl1, N1, z1, z2⟩ := l_m_found58 n hn hI z s0 k39 (lp_m_found_47 n k39 g') (a := a) (by omega) (σ 0 1).toNat 0 n fl N (by omega) (by omega) hW
    have z1' : lp_m_found_58 n k39 (lp_m_found_47 n k39 g') n z fl a 0 N = _ := z1
    unfold f_m_found_47
    rw [ifn (by rw [hW.1 0 1 rfl]; omega), z1']
    exact ih (a + 1) g' fl1 N1 (by omega) hg' z2
/-- labels, at the end -/
def LBe (N σ : Mm) (z : Int) : Prop := LBf N σ z ∧ ∀ a b, vas σ z a b → N 42 b ≤ N 42 a
theorem l_m_found39 (n : Nat) (hn : 3000 ≤ n) (hI : Inv σ) (z : Int) : ∀ (k g : Nat) (N : Mm), AgR N σ → LBf N σ z → sm (σ 0 1).toNat (N 42) ≤ k → k + 1 < g → ∃ N', lp_m_found_39 n g z 1 N = lp_m_found_167 n n 0 0 N' ∧ AgR N' σ ∧ LBe N' σ z := by
  have bh := hI.1.2.1
  have nn : ∀ N : Mm, LBf N σ z → 0 ≤ sm (σ 0 1).toNat (N 42) := fun N h => sm_nn fun i hi => by
    obtain ⟨l, l1, _⟩ := h i (by omega)
    omega
  intro k
  induction k with
  | zero =>
    intro g N hA hL hs hg
    obtain ⟨g', rfl, hg'⟩ := f_pos (show 1 < g by omega)
    obtain ⟨fl, N1, z1, z2⟩ := l_m_found47 n hn hI z (sm (σ 0 1).toNat (N 42)) (lp_m_found_39 n g') (σ 0 1).toNat 0 n 0 N (by omega) (by omega) ⟨hA, hL, Or.inl rfl, fun _ a' b' hc hv => by omega, by omega⟩
    have z1' : lp_m_found_47 n (lp_m_found_39 n g') n z 0 0 N = _ := z1
    obtain ⟨g2, rfl, _⟩ := f_pos hg'
    refine ⟨N1, ?_, z2.1, z2.2.1, ?_⟩
    · show f_m_found_39 n (lp_m_found_39 n (g2 + 1)) z 1 N = _
      unfold f_m_found_39
      rw [ifn (by decide), z1']
      have := nn N1 z2.2.1
      have := z2.2.2.2.2
      have := nn N hL
      have e : fl = 0 := by rcases z2.2.2.1 with q | q <;> omega
      subst e
      show f_m_found_39 n (lp_m_found_39 n g2) z 0 N1 = _
      unfold f_m_found_39
      rw [ifp rfl]
    · have := nn N1 z2.2.1
      have := z2.2.2.2.2
      have e : fl = 0 := by rcases z2.2.2.1 with q | q <;> omega
      exact fun a b hv => z2.2.2.2.1 e a b (Or.inl (by have := hv.1; omega)) hv
  | succ k ih =>
    intro g N hA hL hs hg
    obtain ⟨g', rfl, hg'⟩ := f_pos (show 1 < g by omega)
    obtain ⟨fl, N1, z1, z2⟩ := l_m_found47 n hn hI z (sm (σ 0 1).toNat (N 42)) (lp_m_found_39 n g') (σ 0 1).toNat 0 n 0 N (by omega) (by omega) ⟨hA, hL, Or.inl rfl, fun _ a' b' hc hv => by omega, by omega⟩
    have z1' : lp_m_found_47 n (lp_m_found_39 n g') n z 0 0 N = _ := z1
    have e0 : lp_m_found_39 n (g' + 1) z 1 N = lp_m_found_39 n g' z fl N1 := by
      show f_m_found_39 n (lp_m_found_39 n g') z 1 N = _
      unfold f_m_found_39
      rw [ifn (by decide), z1']
    rw [e0]
    have hs1 := z2.2.2.2.2
    rcases z2.2.2.1 with q | q
    · subst q
      obtain ⟨g2, rfl, _⟩ := f_pos hg'
      refine ⟨N1, ?_, z2.1, z2.2.1, fun a b hv => z2.2.2.2.1 rfl a b (Or.inl (by have := hv.1; omega)) hv⟩
      show f_m_found_39 n (lp_m_found_39 n g2) z 0 N1 = _
      unfold f_m_found_39
      rw [ifp rfl]
    · subst q
      exact ih g' N1 z2.1 z2.2.1 (by omega) (by omega)
theorem l_m_found16 (n : Nat) (hn : 3000 ≤ n) (hI : Inv σ) (z : Int) : ∀ (k h g : Nat) (N : Mm), h + k = (σ 0 1).toNat → k < g → AgR N σ → (∀ i : Nat, i < h → N 42 i = (i : Int)) → ∃ N', lp_m_found_16 n g z h N = lp_m_found_39 n n z 1 N' ∧ AgR N' σ ∧ ∀ i : Nat, (i : Int) < σ 0 1 → N' 42 i = (i : Int) := by
  have bh := hI.1.2.1
  intro k
  induction k with
  | zero =>
    intro h g N hh hg hA hP
    obtain ⟨g', rfl, _⟩ := f_pos hg
    show ∃ N', f_m_found_16 n (lp_m_found_16 n g') z h N = _ ∧ _
    unfold f_m_found_16
    rw [ifp (by rw [hA 0 1 rfl]; omega)]
    exact ⟨N, rfl, hA, fun i hi => hP i (by omega)⟩
  | succ k ih =>
    intro h g N hh hg hA hP
    obtain ⟨g', rfl, hg'⟩ := f_pos hg
    show ∃ N', f_m_found_16 n (lp_m_found_16 n g') z h N = _ ∧ _
    unfold f_m_found_16
    rw [ifn (by rw [hA 0 1 rfl]; omega), ckp (by omega), w_succ (by omega), Int.toNat_natCast]
    have fr : Fr cdR [42] N (mset N 42 h (h : Int)) := Fr.rf.set rfl
    refine ih (h + 1) g' (mset N 42 h (h : Int)) (by omega) hg' (hA.fr fr (by decide)) fun i hi => ?_
    by_cases e : i = h
    · rw [e, mg_s]
    · rw [mg_j _ _ _ e]; exact hP i (by omega)
theorem LBe_eq (hL : LBe N σ z) {a b : Nat} (h : cnx σ z a b) : N 42 b = N 42 a :=
  h (fun y => N 42 y = N 42 a) (fun x y hv hx => by
    have h1 := hL.2 x y hv
    have h2 := hL.2 y x (vas_sym hv)
    show N 42 y = N 42 a
    have hx' : N 42 x = N 42 a := hx
    omega) rfl
theorem LBe_cnt (hI : Inv σ) (hL : LBe N σ z) {h : Nat} (hh : (h : Int) < σ 0 1) : 1 < cn (σ 0 1).toNat (fun o => decide (N 42 o = (h : Int))) ↔ gLst σ z h := by
  have bh := hI.1.2.1
  have least : ∀ l : Nat, N 42 h = (l : Int) → cnx σ z h l → ∀ o, cnx σ z h o → l ≤ o := fun l l1 l2 o ho => by
    by_cases c : (o : Int) < σ 0 1
    · obtain ⟨lo, b1, b2, b3⟩ := hL.1 o c
      have := LBe_eq hL ho
      omega
    · rcases cnx_in ho with e | e
      · omega
      · exact absurd e.2.1 c
  constructor
  · intro hc
    have ex : ∃ o1 : Nat, (o1 : Int) < σ 0 1 ∧ o1 ≠ h ∧ N 42 o1 = (h : Int) := Classical.byContradiction fun q => by
      have h1 : cn (σ 0 1).toNat (fun o => decide (N 42 o = (h : Int))) = cn (σ 0 1).toNat (fun o => decide ((o : Int) < σ 0 1) && decide (N 42 o = (h : Int))) := cn_congr fun i hi => by rw [decide_eq_true (show (i : Int) < σ 0 1 by omega), Bool.true_and]
      have h2 := cn_one (p := fun o => decide ((o : Int) < σ 0 1) && decide (N 42 o = (h : Int))) (k := (σ 0 1).toNat) (i := h) fun x hx => by
        simp only [Bool.and_eq_true, decide_eq_true_eq] at hx
        exact Classical.byContradiction fun w => q ⟨x, hx.1, w, hx.2⟩
      omega
    obtain ⟨o, o1, o2, o3⟩ := ex
    obtain ⟨lo, b1, b2, b3⟩ := hL.1 o o1
    have e : lo = h := by omega
    subst e
    have hs := cnx_sy b3
    have e2 := LBe_eq hL b3
    exact ⟨⟨o, o2, hs⟩, least lo (by omega) (cnx_rf _)⟩
  · rintro ⟨⟨o, o1, o2⟩, h3⟩
    obtain ⟨l, l1, l2, l3⟩ := hL.1 h hh
    have e : l = h := by have := h3 l l3; omega
    subst e
    have hoH : (o : Int) < σ 0 1 := by
      rcases cnx_in o2 with e | e
      · omega
      · exact e.2.1
    have := cn_two (p := fun o => decide (N 42 o = (l : Int))) (i := o) (j := l) (k := (σ 0 1).toNat) (by omega) (by omega) o1 (decide_eq_true (by rw [LBe_eq hL o2, l1])) (decide_eq_true l1)
    omega
theorem l_m_found182 (n : Nat) (hn : 3000 ≤ n) (hI : Inv σ) (hA : AgR N σ) (k167 : Int → Int → Mm → Rr) (c : Nat) (hc : c ≤ 16) {h : Nat} (hh : h < 16) : ∀ (k o g : Nat), o + k = (σ 0 1).toNat → k < g → lp_m_found_182 n k167 g c h (cn o (fun o => decide (N 42 o = (h : Int)))) o N = k167 ((c + (if 1 < cn (σ 0 1).toNat (fun o => decide (N 42 o = (h : Int))) then 1 else 0) : Nat) : Int) ((h + 1 : Nat) : Int) N := by
  have bh := hI.1.2.1
  intro k
  induction k with
  | zero =>
    intro o g ho hg
    obtain ⟨g', rfl, _⟩ := f_pos hg
    have e : o = (σ 0 1).toNat := by omega
    subst e
    show f_m_found_182 n k167 (lp_m_found_182 n k167 g') c h _ _ N = _
    unfold f_m_found_182 f_m_found_231
    rw [ifp (by rw [hA 0 1 rfl]; omega)]
    by_cases q : 1 < cn (σ 0 1).toNat (fun o => decide (N 42 o = (h : Int)))
    · rw [ifn (by omega), ifp q, w32_s (by omega) (by omega), w_succ (by omega)]; rfl
    · rw [ifp (by omega), ifn q, w32_s (by omega) (by omega), w_succ (by omega)]; rfl
  | succ k ih =>
    intro o g ho hg
    obtain ⟨g', rfl, hg'⟩ := f_pos hg
    show f_m_found_182 n k167 (lp_m_found_182 n k167 g') c h _ _ N = _
    have hcn := cn_le (fun o => decide (N 42 o = (h : Int))) o
    have I := ih (o + 1) g' (by omega) hg'
    unfold f_m_found_182 f_m_found_210
    rw [ifn (by rw [hA 0 1 rfl]; omega), ckp (by omega), Int.toNat_natCast, w_succ (show o < 2000000000 by omega)]
    by_cases q : N 42 o = (h : Int)
    · rw [cn_t (decide_eq_true q)] at I
      rw [ifn (fun w => w q), w32_s (by omega) (by omega)]
      exact I
    · rw [cn_f (decide_eq_false q)] at I
      rw [ifp q, w32_s (by omega) (by omega), Int.add_zero]
      exact I
theorem l_m_found167 (n : Nat) (hn : 3000 ≤ n) (hI : Inv σ) (hA : AgR N σ) (hL : LBe N σ z) : ∀ (k h g : Nat), h + k = (σ 0 1).toNat → k < g → lp_m_found_167 n g (cn h (gLB σ z)) h N = some ((cn (σ 0 1).toNat (gLB σ z) : Int), N) := by
  have bh := hI.1.2.1
  intro k
  induction k with
  | zero =>
    intro h g hh hg
    obtain ⟨g', rfl, _⟩ := f_pos hg
    have e : h = (σ 0 1).toNat := by omega
    subst e
    show f_m_found_167 n (lp_m_found_167 n g') _ _ N = _
    unfold f_m_found_167
    rw [ifp (by rw [hA 0 1 rfl]; omega)]
  | succ k ih =>
    intro h g hh hg
    obtain ⟨g', rfl, hg'⟩ := f_pos hg
    show f_m_found_167 n (lp_m_found_167 n g') _ _ N = _
    have hcn := cn_le (gLB σ z) h
    have I := ih (h + 1) g' (by omega) hg'
    have s := l_m_found182 n hn hI hA (lp_m_found_167 n g') (cn h (gLB σ z)) (by omega) (h := h) (by omega) (σ 0 1).toNat 0 n (by omega) (by omega)
    have s' : lp_m_found_182 n (lp_m_found_167 n g') n (cn h (gLB σ z)) h 0 0 N = _ := s
    unfold f_m_found_167
    rw [ifn (by rw [hA 0 1 rfl]; omega), s']
    by_cases q : gLst σ z h
    · rw [cn_t (gLB_t.mpr q)] at I
      rw [ifp ((LBe_cnt hI hL (by omega)).mpr q)]
      exact I
    · rw [cn_f (show gLB σ z h = false by cases w : gLB σ z h with | false => rfl | true => exact absurd (gLB_t.mp w) q)] at I
      rw [ifn (fun w => q ((LBe_cnt hI hL (by omega)).mp w))]
      exact I
theorem q_found (n : Nat) (hn : 3000 ≤ n) (z : Int) (hJ : J M N) : Sim (f_W_found n z M) (f_m_found n z N) := by
  have hJ0 := hJ
  obtain ⟨σ, hI, hA, hC⟩ := hJ
  have bh := hI.1.2.1
  unfold f_W_found f_m_found
  rw [e_m_in, bnd_mk]
  by_cases c : 1 ≤ z ∧ z ≤ 30
  · rw [ifn (by omega), ifp c.2, ifp c, n1]
    obtain ⟨N1, k1, k2, k3⟩ := l_m_found16 n hn hI z (σ 0 1).toNat 0 n N (by omega) (by omega) hA (fun i hi => absurd hi (Nat.not_lt_zero i))
    have k1' : lp_m_found_16 n n z 0 N = _ := k1
    have hL : LBf N1 σ z := fun h hh => ⟨h, k3 h hh, Nat.le_refl h, cnx_rf h⟩
    have hs : sm (σ 0 1).toNat (N1 42) ≤ ((σ 0 1).toNat : Int) * 16 := sm_ub fun i hi => by rw [k3 i (by omega)]; omega
    obtain ⟨N2, l1, l2, l3⟩ := l_m_found39 n hn hI z 256 n N1 k2 hL (by omega) (by omega)
    have e := l_m_found167 n hn hI l2 l3 (σ 0 1).toNat 0 n (by omega) (by omega)
    have e' : lp_m_found_167 n n 0 0 N2 = _ := e
    rw [k1', l1, e', q_W_found n hn hI hC z]
    exact Sim.same ⟨σ, hI, l2, hC⟩ _
  · rw [ifn c, n0]
    by_cases c2 : z < 1
    · rw [ifp c2]; exact Sim.same hJ0 _
    · rw [ifn c2, ifn (by omega)]; exact Sim.same hJ0 _
end
