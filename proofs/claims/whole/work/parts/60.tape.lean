/-! Tapes. -/
theorem rw6_M (M : Mm) {t : Nat} (ht : t < 6) : rw6 (M 100) (M 101) (M 102) (M 103) (M 104) (M 105) t = M (100 + t) := by
  have : t = 0 ∨ t = 1 ∨ t = 2 ∨ t = 3 ∨ t = 4 ∨ t = 5 := by omega
  rcases this with rfl | rfl | rfl | rfl | rfl | rfl <;> rfl
theorem fr_tape {L : List Nat} (t : Nat) (ht : t < 6) (hL : ([100, 101, 102, 103, 104, 105].all fun x => L.elem x) = true) (j : Nat) : L.elem (cdC (100 + t) j) = true := by
  have h := List.all_eq_true.mp hL (100 + t) (by
    have : t = 0 ∨ t = 1 ∨ t = 2 ∨ t = 3 ∨ t = 4 ∨ t = 5 := by omega
    rcases this with rfl | rfl | rfl | rfl | rfl | rfl <;> decide)
  have e : cdC (100 + t) j = 100 + t := by
    unfold cdC
    rw [ifn (by omega)]
  rw [e]; exact h
/-- the rest of the class's memory is as it was: only the tapes' rows are new -/
theorem relC_tape {M M' σ σ' : Mm} (hC : RelC M σ) (hf : Fr cdC [13, 14, 100, 101, 102, 103, 104, 105] M M') (hs : ∀ k j, k ≠ 47 → k ≠ 48 → k ≠ 49 → σ' k j = σ k j) (h13 : M' 13 = σ' 47) (h14 : M' 14 = σ' 48) (hit : ∀ t j : Nat, t < 6 → j < 60 → M' (100 + t) j = σ' 49 (60 * t + j)) : RelC M' σ' := by
  have g : ∀ k j, [13, 14, 100, 101, 102, 103, 104, 105].elem (cdC k j) = false → M' k j = M k j := hf
  have gr : ∀ k, (∀ j, [13, 14, 100, 101, 102, 103, 104, 105].elem (cdC k j) = false) → M' k = M k := fun k hk => funext fun j => g k j (hk j)
  have sr : ∀ k, k ≠ 47 → k ≠ 48 → k ≠ 49 → σ' k = σ k := fun k a b c => funext fun j => hs k j a b c
  obtain ⟨r1, r2, r3, r4, r5, r6⟩ := hC
  refine ⟨?_, ?_, ?_, ?_, ⟨h13, h14, fun t j ht hj => by rw [rw6_M M' ht]; exact hit t j ht hj⟩, ?_⟩
  · rw [g 1 0 rfl, g 1 1 rfl, g 1 2 rfl, g 1 3 rfl, gr 16 (fun _ => rfl), gr 17 (fun _ => rfl), gr 18 (fun _ => rfl), gr 19 (fun _ => rfl), gr 20 (fun _ => rfl), gr 900 (fun _ => rfl), gr 901 (fun _ => rfl), sr 0 (by decide) (by decide) (by decide), sr 1 (by decide) (by decide) (by decide), sr 2 (by decide) (by decide) (by decide)]
    exact r1
  · rw [g 1 4 rfl, g 1 16 rfl, gr 21 (fun _ => rfl), gr 22 (fun _ => rfl), gr 23 (fun _ => rfl), gr 24 (fun _ => rfl), gr 27 (fun _ => rfl), gr 28 (fun _ => rfl), gr 29 (fun _ => rfl), sr 0 (by decide) (by decide) (by decide), sr 3 (by decide) (by decide) (by decide), sr 4 (by decide) (by decide) (by decide), sr 5 (by decide) (by decide) (by decide), sr 6 (by decide) (by decide) (by decide), sr 7 (by decide) (by decide) (by decide), sr 8 (by decide) (by decide) (by decide), sr 9 (by decide) (by decide) (by decide), sr 10 (by decide) (by decide) (by decide), sr 11 (by decide) (by decide) (by decide)]
    exact r2
  · rw [g 2 0 rfl, g 2 1 rfl, gr 30 (fun _ => rfl), gr 31 (fun _ => rfl), gr 32 (fun _ => rfl), gr 33 (fun _ => rfl), gr 34 (fun _ => rfl), gr 35 (fun _ => rfl), gr 36 (fun _ => rfl), gr 37 (fun _ => rfl), sr 0 (by decide) (by decide) (by decide), sr 12 (by decide) (by decide) (by decide), sr 13 (by decide) (by decide) (by decide), sr 14 (by decide) (by decide) (by decide), sr 15 (by decide) (by decide) (by decide)]
    exact r3
  · rw [g 0 8 rfl, gr 11 (fun _ => rfl), gr 12 (fun _ => rfl), sr 0 (by decide) (by decide) (by decide), sr 40 (by decide) (by decide) (by decide), sr 41 (by decide) (by decide) (by decide)]
    exact r4
  · rw [gr 10 (fun _ => rfl), sr 0 (by decide) (by decide) (by decide), sr 46 (by decide) (by decide) (by decide)]
    exact r6
theorem inv_tape {σ σ' : Mm} (hI : Inv σ) (hs : ∀ k j, k ≠ 47 → k ≠ 48 → k ≠ 49 → σ' k j = σ k j) (h : IT (σ' 47) (σ' 48) (σ' 49)) : Inv σ' := by
  have sr : ∀ k, k ≠ 47 → k ≠ 48 → k ≠ 49 → σ' k = σ k := fun k a b c => funext fun j => hs k j a b c
  obtain ⟨r1, r2, r3, r4, r5⟩ := hI
  unfold Inv
  rw [sr 0 (by decide) (by decide) (by decide), sr 1 (by decide) (by decide) (by decide), sr 2 (by decide) (by decide) (by decide), sr 3 (by decide) (by decide) (by decide), sr 4 (by decide) (by decide) (by decide), sr 5 (by decide) (by decide) (by decide), sr 6 (by decide) (by decide) (by decide), sr 7 (by decide) (by decide) (by decide), sr 8 (by decide) (by decide) (by decide), sr 9 (by decide) (by decide) (by decide), sr 10 (by decide) (by decide) (by decide), sr 11 (by decide) (by decide) (by decide), sr 12 (by decide) (by decide) (by decide), sr 13 (by decide) (by decide) (by decide), sr 14 (by decide) (by decide) (by decide), sr 15 (by decide) (by decide) (by decide), sr 40 (by decide) (by decide) (by decide), sr 41 (by decide) (by decide) (by decide)]
  exact ⟨r1, r2, r3, r4, h⟩
theorem l_m_tape (n t : Nat) (ht : t < 6) (N0 : Mm) : ∀ (r k f : Nat) (N : Mm), k + r = 60 → r < f → Fr cdR [49] N0 N → (∀ q, N 49 q = if 60 * t ≤ q ∧ q < 60 * t + k then 0 else N0 49 q) → ∃ N', lp_m_tape_69 n f t k N = some (1, N') ∧ Fr cdR [49] N0 N' ∧ ∀ q, N' 49 q = if 60 * t ≤ q ∧ q < 60 * t + 60 then 0 else N0 49 q := by
  intro r
  induction r with
  | zero =>
    intro k f N hk hf hF hq
    obtain ⟨f', rfl, hf'⟩ := f_pos hf
    have e : k = 60 := by omega
    subst e
    refine ⟨N, ?_, hF, hq⟩
    show f_m_tape_69 n (lp_m_tape_69 n f') t (60 : Nat) N = _
    unfold f_m_tape_69
    rw [ifp (by omega)]
  | succ r ih =>
    intro k f N hk hf hF hq
    obtain ⟨f', rfl, hf'⟩ := f_pos hf
    show ∃ N', f_m_tape_69 n (lp_m_tape_69 n f') t k N = some (1, N') ∧ _
    unfold f_m_tape_69
    rw [ifn (by omega), w32_s (x := 60 * (t : Int)) (by omega) (by omega), w32_s (x := 60 * (t : Int) + k) (by omega) (by omega), ckp (by omega), w_succ (by omega)]
    refine ih (k + 1) f' _ (by omega) hf' (hF.set rfl) fun q => ?_
    rw [mg, ifp rfl, show (60 * (t : Int) + k).toNat = 60 * t + k by omega]
    by_cases e : q = 60 * t + k
    · rw [ifp e, ifp (by omega)]
    · rw [ifn e, hq q]
      by_cases e2 : 60 * t ≤ q ∧ q < 60 * t + k
      · rw [ifp e2, ifp (by omega)]
      · rw [ifn e2, ifn (by omega)]
theorem q_tape {M N : Mm} (n : Nat) (hn : 200 ≤ n) (x y z : Int) (hJ : J M N) : Sim (f_W_tape n x y z M) (f_m_tape n x y z N) := by
  have hJ0 := hJ
  obtain ⟨σ, hI, hA, hC⟩ := hJ
  have c13 : M 13 = σ 47 := hC.2.2.2.2.1.1
  have c14 : M 14 = σ 48 := hC.2.2.2.2.1.2.1
  have cit := hC.2.2.2.2.1.2.2
  have hT := hI.2.2.2.2
  unfold f_W_tape f_m_tape
  simp only [e_W_isTape, e_m_isTape, e_m_in, bnd_mk]
  by_cases c : 0 ≤ x ∧ x < 6
  · obtain ⟨t, rfl⟩ := nat_of c.1
    have ht : t < 6 := by omega
    by_cases c2 : -1 ≤ y ∧ y ≤ 4
    · simp only [ifp c, ifp c2, i1, n1, ifn (show ¬ y < -1 by omega), ifn (show ¬ 4 < y by omega)]
      have fin : ∀ z', (0 ≤ z' ∧ z' ≤ 60) → (y = -1 → z' = 0) → Sim (f_W_tape_67 n t t z' (mset M 13 (t : Int).toNat y)) (f_m_tape_65 n t t z' (mset N 47 (t : Int).toNat y)) := by
        intro z' hz' hz0
        unfold f_W_tape_67 f_m_tape_65
        simp only [ckp (show (0 : Int) ≤ (t : Int) ∧ (t : Int) < 6 by omega), Int.toNat_natCast]
        obtain ⟨N', g1, g2, g3⟩ := l_m_tape n t ht (mset (mset N 47 t y) 48 t z') 60 0 n _ (by omega) (by omega) Fr.rf (fun q => by rw [ifn (by omega)])
        refine Sim.mk (r := 1) rfl g1 ⟨mrow (mset (mset σ 47 t y) 48 t z') 49 (fun q => if 60 * t ≤ q ∧ q < 60 * t + 60 then 0 else σ 49 q), ?_, ?_, ?_⟩
        · refine inv_tape hI (fun k j h1 h2 h3 => by rw [mr_ne h3, mg_k _ _ _ h2, mg_k _ _ _ h1]) ⟨?_, ?_⟩
          · intro u hu
            rw [mr_ne (by decide), mr_ne (by decide), mg_k _ _ _ (show (47 : Nat) ≠ 48 by decide)]
            by_cases e : u = t
            · subst e
              rw [mg_s, mg_s]
              exact ⟨c2, hz', hz0⟩
            · rw [mg_j _ _ _ e, mg_j _ _ _ e, mg_k _ _ _ (by decide)]
              exact hT.1 u hu
          · intro q
            rw [mr_eq]
            show in64 (if 60 * t ≤ q ∧ q < 60 * t + 60 then 0 else σ 49 q)
            split
            · exact lr_i ir_0
            · exact hT.2 q
        · intro k j hk
          by_cases e : k = 49
          · subst e
            rw [g3, mr_eq]
            show (if 60 * t ≤ j ∧ j < 60 * t + 60 then 0 else mset (mset N 47 t y) 48 t z' 49 j) = if 60 * t ≤ j ∧ j < 60 * t + 60 then 0 else σ 49 j
            rw [mg_k _ _ _ (by decide), mg_k _ _ _ (by decide), hA.row (k := 49) (fun _ => rfl)]
          · rw [mr_ne e, g2 k j (by
              unfold cdR
              by_cases e0 : k = 0
              · rw [ifp e0]; simp; omega
              · rw [ifn e0]; simp; omega)]
            exact ((hA.set 47 t y).set 48 t z') k j hk
        · refine relC_tape hC ?_ (fun k j h1 h2 h3 => by rw [mr_ne h3, mg_k _ _ _ h2, mg_k _ _ _ h1]) ?_ ?_ ?_
          · exact Fr.rowset ((Fr.rf.set rfl).set rfl) (fun j => fr_tape t ht rfl j)
          · rw [mfil_k _ _ _ (by omega), mg_k _ _ _ (show (13 : Nat) ≠ 14 by decide), ms_row, mr_ne (by decide), mg_k _ _ _ (show (47 : Nat) ≠ 48 by decide), ms_row, c13]
          · rw [mfil_k _ _ _ (by omega), mr_ne (by decide), ms_row, ms_row, mg_k _ _ _ (by decide), mg_k _ _ _ (by decide), c14]
          · intro u j hu hj
            rw [mr_eq]
            show _ = if 60 * t ≤ 60 * u + j ∧ 60 * u + j < 60 * t + 60 then 0 else σ 49 (60 * u + j)
            by_cases e : u = t
            · subst e
              rw [mfil_in _ _ _ _ hj, ifp (by omega)]
            · rw [mfil_k _ _ _ (by omega), mg_k _ _ _ (by omega), mg_k _ _ _ (by omega), ifn (by omega), ← rw6_M M hu]
              exact cit u j hu hj
      unfold f_W_tape_33 f_m_tape_33 f_W_tape_45 f_m_tape_44
      simp only [ckp (show (0 : Int) ≤ (t : Int) ∧ (t : Int) < 6 by omega)]
      by_cases c3 : y = -1
      · rw [ifp c3, ifp c3, ifn (show ¬ y ≠ -1 by omega), ifp (show y < 0 by omega), ifp (show y < 0 by omega), ifn (show ¬ 0 ≤ y by omega)]
        exact fin 0 (by decide) (fun _ => rfl)
      · rw [ifn c3, ifn c3, ifp (show y ≠ -1 from c3), ifn (show ¬ y < 0 by omega), ifn (show ¬ y < 0 by omega), ifp (show 0 ≤ y by omega)]
        by_cases c4 : z ≤ 60
        · rw [ifp c4, ifp c4]
          by_cases c5 : 0 ≤ z
          · rw [ifp c5, ifp c5]
            exact fin z ⟨c5, c4⟩ (fun q => absurd q c3)
          · rw [ifn c5, ifn c5]; exact Sim.same hJ0 _
        · rw [ifn c4, ifn c4]; exact Sim.same hJ0 _
    · simp only [ifp c, ifn c2, i0, n1]
      by_cases c3 : y < -1
      · rw [ifp c3]; exact Sim.same hJ0 _
      · rw [ifn c3, ifp (show 4 < y by omega)]; exact Sim.same hJ0 _
  · simp only [ifn c, n0]; exact Sim.same hJ0 _
theorem e_cut (n : Nat) (M N : Mm) (v so : Int) (h : 0 ≤ so ∧ so ≤ 4) (hv : in64 v) : ∃ r, f_W_cut n v so M = some (r, M) ∧ f_m_narrow n so v N = some (r, N) ∧ in64 r := by
  unfold f_W_cut f_m_narrow
  by_cases c0 : so = 0
  · rw [ifp c0, ifn (by simpa using c0)]; exact ⟨_, rfl, rfl, lr_i (ir_w8 _)⟩
  · rw [ifn c0, ifp c0]
    by_cases c1 : so = 1
    · rw [ifp c1, ifn (by simpa using c1)]; exact ⟨_, rfl, rfl, lr_i (ir_w16 _)⟩
    · rw [ifn c1, ifp c1]
      by_cases c2 : so = 2
      · rw [ifp c2, ifn (by simpa using c2)]; exact ⟨_, rfl, rfl, lr_i (ir_w _)⟩
      · rw [ifn c2, ifp c2]
        by_cases c3 : so = 3
        · rw [ifp c3, ifp (show so ≠ 4 by omega)]; exact ⟨_, rfl, rfl, hv⟩
        · rw [ifn c3, ifn (show ¬ so ≠ 4 by omega)]
          by_cases c4 : v = 0
          · rw [ifp c4, ifp c4]; exact ⟨_, rfl, rfl, lr_i ir_0⟩
          · rw [ifn c4, ifn c4]; exact ⟨_, rfl, rfl, by unfold in64; decide⟩
theorem q_item {M N : Mm} (n : Nat) (x i v : Int) (hv : in64 v) (hJ : J M N) : Sim (f_W_item n x i v M) (f_m_item n x i v N) := by
  have hJ0 := hJ
  obtain ⟨σ, hI, hA, hC⟩ := hJ
  have c13 : M 13 = σ 47 := hC.2.2.2.2.1.1
  have c14 : M 14 = σ 48 := hC.2.2.2.2.1.2.1
  have cit := hC.2.2.2.2.1.2.2
  have hT := hI.2.2.2.2
  have a47 : N 47 = σ 47 := hA.row fun _ => rfl
  have a48 : N 48 = σ 48 := hA.row fun _ => rfl
  unfold f_W_item f_m_item
  simp only [e_W_isTape, e_m_isTape, bnd_mk]
  by_cases c : 0 ≤ x ∧ x < 6
  · obtain ⟨t, rfl⟩ := nat_of c.1
    have ht : t < 6 := by omega
    have hTt := hT.1 t ht
    simp only [ifp c, n1, ckp c, Int.toNat_natCast, c13, a47, a48]
    by_cases c2 : σ 47 t = -1
    · rw [ifn (show ¬ σ 47 t ≠ -1 by omega), ifn (show ¬ 0 ≤ σ 47 t by omega)]; exact Sim.same hJ0 _
    · rw [ifp (show σ 47 t ≠ -1 from c2), ifp (show 0 ≤ σ 47 t by omega), e_W_hasPlaces n M t i 1 c (by rw [Int.toNat_natCast, c14]; exact hTt.2.1) (by decide), w32_s (by omega) (by omega), e_m_in, bnd_mk, bnd_mk, Int.toNat_natCast, c14]
      by_cases c3 : 0 ≤ i ∧ i ≤ σ 48 t - 1
      · obtain ⟨r, g1, g2, g3⟩ := e_cut n M N v (σ 47 t) (by omega) hv
        simp only [ifp c3, ifp (show 0 ≤ i ∧ 0 ≤ (1 : Int) ∧ i ≤ σ 48 t - 1 from ⟨c3.1, by decide, c3.2⟩), n1, c13, a47, g1, g2, bnd_mk]
        rw [ckp (by omega), w32_s (x := 60 * (t : Int)) (by omega) (by omega), w32_s (x := 60 * (t : Int) + i) (by omega) (by omega), ckp (by omega), show (60 * (t : Int) + i).toNat = 60 * t + i.toNat by omega]
        refine Sim.mk (r := 1) rfl rfl ⟨mset σ 49 (60 * t + i.toNat) r, ?_, hA.set _ _ _, ?_⟩
        · refine inv_tape hI (fun k j h1 h2 h3 => by rw [mg_k _ _ _ h3]) ⟨hT.1, fun q => ?_⟩
          rw [mg, ifp rfl]
          split
          · exact g3
          · exact hT.2 q
        · refine relC_tape hC (Fr.rf.set (fr_tape t ht rfl _)) (fun k j h1 h2 h3 => by rw [mg_k _ _ _ h3]) ?_ ?_ ?_
          · rw [mg_k _ _ _ (by omega), mg_k _ _ _ (by decide), c13]
          · rw [mg_k _ _ _ (by omega), mg_k _ _ _ (by decide), c14]
          · intro u j hu hj
            have := cit u j hu hj
            rw [rw6_M M hu] at this
            rw [mg, mg, ifp rfl]
            by_cases e : u = t
            · subst e
              rw [ifp rfl]
              by_cases e2 : j = i.toNat
              · subst e2; rw [ifp rfl, ifp rfl]
              · rw [ifn e2, ifn (by omega)]; exact this
            · rw [ifn (by omega), ifn (by omega)]; exact this
      · simp only [ifn c3, ifn (show ¬ (0 ≤ i ∧ 0 ≤ (1 : Int) ∧ i ≤ σ 48 t - 1) from fun q => c3 ⟨q.1, q.2.2⟩), n0]; exact Sim.same hJ0 _
  · simp only [ifn c, n0]; exact Sim.same hJ0 _
theorem q_read {M N : Mm} (n : Nat) (x i : Int) (hJ : J M N) : Sim (f_W_read n x i M) (f_m_read n x i N) := by
  have hJ0 := hJ
  obtain ⟨σ, hI, hA, hC⟩ := hJ
  have c14 : M 14 = σ 48 := hC.2.2.2.2.1.2.1
  have cit := hC.2.2.2.2.1.2.2
  have hT := hI.2.2.2.2
  have a47 : N 47 = σ 47 := hA.row fun _ => rfl
  have a48 : N 48 = σ 48 := hA.row fun _ => rfl
  have a49 : N 49 = σ 49 := hA.row fun _ => rfl
  unfold f_W_read f_m_read f_W_read_28 f_m_read_34
  simp only [e_W_isTape, e_m_isTape, bnd_mk]
  by_cases c : 0 ≤ x ∧ x < 6
  · obtain ⟨t, rfl⟩ := nat_of c.1
    have ht : t < 6 := by omega
    have hTt := hT.1 t ht
    simp only [ifp c, i1, ckp c, Int.toNat_natCast, a47, a48]
    rw [e_W_hasPlaces n M t i 1 c (by rw [Int.toNat_natCast, c14]; exact hTt.2.1) (by decide), w32_s (x := σ 48 t - 1) (by omega) (by omega), e_m_in, bnd_mk, bnd_mk, Int.toNat_natCast, c14]
    by_cases c3 : 0 ≤ i ∧ i ≤ σ 48 t - 1
    · simp only [ifp c3, ifp (show 0 ≤ i ∧ 0 ≤ (1 : Int) ∧ i ≤ σ 48 t - 1 from ⟨c3.1, by decide, c3.2⟩), n1, i1]
      rw [ckp (by omega), w32_s (x := 60 * (t : Int)) (by omega) (by omega), w32_s (x := 60 * (t : Int) + i) (by omega) (by omega), ckp (by omega), show (60 * (t : Int) + i).toNat = 60 * t + i.toNat by omega, ifn (by omega), a49]
      have := cit t i.toNat ht (by omega)
      rw [rw6_M M ht] at this
      rw [this]
      exact Sim.same hJ0 _
    · simp only [ifn c3, ifn (show ¬ (0 ≤ i ∧ 0 ≤ (1 : Int) ∧ i ≤ σ 48 t - 1) from fun q => c3 ⟨q.1, q.2.2⟩), n0, i0]
      by_cases c4 : σ 47 t < 0
      · rw [ifp c4]; exact Sim.same hJ0 _
      · rw [ifn c4]; exact Sim.same hJ0 _
  · simp only [ifn c, i0]; exact Sim.same hJ0 _
