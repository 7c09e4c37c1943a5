/-! holder(..): the two together. -/
section
variable {σ : Mm} {M N : Mm} {n : Nat}
theorem IS_up {td ho ho' sh sa : Int} {kd kd' sf s1 pa vo pr ca xs xt xd : Nat → Int} (H : IS td ho sh sa kd sf s1 pa vo pr ca xs xt xd) (h : ho ≤ ho') (hk : ∀ i : Nat, (i : Int) < ho → kd' i = kd i) : IS td ho' sh sa kd' sf s1 pa vo pr ca xs xt xd := by
  obtain ⟨a1, a2, a3, a4, a5, a6, a7⟩ := H
  refine ⟨a1, a2, a3, fun s hs => ?_, fun k hk' => ?_, a6, a7⟩
  · obtain ⟨b1, b2, b3, b4, b5⟩ := a4 s hs
    exact ⟨⟨b1.1, by omega, by rw [hk _ (by omega)]; exact b1.2.2⟩, ⟨b2.1, by omega⟩, b3, b4, b5⟩
  · obtain ⟨b1, b2, b3, b4⟩ := a5 k hk'
    exact ⟨b1, ⟨b2.1, by omega⟩, b3, b4⟩
theorem IM_up {ho ho' mo : Int} {ye no : Nat → Int} (H : IM ho mo ye no) (h : ho ≤ ho') : IM ho' mo ye no :=
  ⟨H.1, fun m hm => ⟨(H.2 m hm).1, (H.2 m hm).2.1, fun k hk => (H.2 m hm).2.2 k (Int.le_trans h hk)⟩⟩
theorem e_m_holder27 {td fi : Int} {h : Nat} (hh : h ≤ 15) (h1 : N 0 1 = (h : Int)) (h2 : N 0 2 = fi) (hfi : 0 ≤ fi ∧ fi ≤ 7) {x y : Int} (h7 : x = 1 → fi < 7) : f_m_holder_27 n x y N = some ((h : Int), mset (mset (mset (mset N 1 h x) 2 h (if x = 3 then y else 0)) 0 2 (fi + if x = 1 then 1 else 0)) 0 1 ((h + 1 : Nat) : Int)) := by
  have e53 : f_m_holder_27 n x y N = f_m_holder_53 n x y N := by
    unfold f_m_holder_27
    rw [ifn (by omega)]
    by_cases c : x = 1
    · have := h7 c
      rw [ifn (show ¬ x ≠ 1 from fun q => q c), ifp (show N 0 2 ≠ 7 by omega)]
    · rw [ifp c]
  have e81 : f_m_holder_53 n x y N = f_m_holder_81 n x h (if x = 3 then y else 0) (mset N 1 h x) := by
    unfold f_m_holder_53
    rw [h1, ckp (by omega), Int.toNat_natCast, mg_k _ _ _ (show (0 : Nat) ≠ 1 by decide), h1]
    by_cases c : x = 3
    · rw [ifn (show ¬ x ≠ 3 from fun q => q c), ifp c]
    · rw [ifp c, ifn c]
  have e97 : ∀ v : Int, f_m_holder_81 n x h v (mset N 1 h x) = f_m_holder_97 n fi (if x = 1 then 1 else 0) (mset (mset N 1 h x) 2 h v) := fun v => by
    unfold f_m_holder_81
    rw [ckp (by omega), Int.toNat_natCast, mg_k _ _ _ (show (0 : Nat) ≠ 2 by decide), mg_k _ _ _ (show (0 : Nat) ≠ 1 by decide), h2]
    by_cases c : x = 1
    · rw [ifn (show ¬ x ≠ 1 from fun q => q c), ifp c]
    · rw [ifp c, ifn c]
  rw [e53, e81, e97]
  unfold f_m_holder_97
  have eb : w32 (fi + if x = 1 then 1 else 0) = fi + if x = 1 then 1 else 0 := by
    by_cases c : x = 1
    · rw [ifp c]; exact w32_s (by omega) (by omega)
    · rw [ifn c]; exact w32_s (by omega) (by omega)
  rw [eb, mg_j _ _ _ (show (1 : Nat) ≠ 2 by decide), mg_k _ _ _ (show (0 : Nat) ≠ 2 by decide), mg_k _ _ _ (show (0 : Nat) ≠ 1 by decide), h1, w_succ (by omega), mg_s, w32_s (by omega) (by omega), show ((h + 1 : Nat) : Int) - 1 = (h : Int) by omega]
theorem q_holder (n : Nat) (hn : 3000 ≤ n) (x y : Int) (hJ : J M N) : Sim (f_W_holder n x y M) (f_m_holder n x y N) := by
  have hJ0 := hJ
  obtain ⟨σ, hI, hA, hC⟩ := hJ
  have b := hI.1.2.1
  have a1 : N 0 1 = σ 0 1 := hA 0 1 rfl
  have a2 : N 0 2 = σ 0 2 := hA 0 2 rfl
  have hfi0 : σ 0 2 = (cn (σ 0 1).toNat (isF (σ 1)) : Int) := hI.1.2.2.2.2.2.1
  have hfi7 : σ 0 2 ≤ 7 := hI.1.2.2.2.2.2.2
  obtain ⟨k1, k2, k3, k4, k5, k6⟩ := id hC
  have c11 : M 1 1 = σ 0 1 := k1.2.1
  have c12 : M 1 2 = σ 0 2 := k1.2.2.1
  have core : ∀ (x y f : Int), (0 ≤ x ∧ x ≤ 5) → (0 ≤ f ∧ f ≤ 3) → (if x = 3 then y else 0) = f → Sim (f_W_holder_47 n x f M) (f_m_holder_27 n x y N) := by
    intro x y f hx hf hyf
    have hxf : x ≠ 3 → f = 0 := fun c => by rw [ifn c] at hyf; exact hyf.symm
    unfold f_W_holder_47 f_R_enter
    by_cases c16 : σ 0 1 = 16
    · unfold f_m_holder_27
      rw [c11, ifp (by omega), bnd_mk, a1, ifp c16]
      exact Sim.same hJ0 _
    · obtain ⟨h, hh⟩ := nat_of b.1
      rw [c11, ifn (by omega)]
      by_cases c7 : x = 1 ∧ σ 0 2 = 7
      · unfold f_m_holder_27
        rw [c12, ifn (show ¬ x ≠ 1 from fun q => q c7.1), ifn (by omega), bnd_mk, a1, ifn c16, ifn (show ¬ x ≠ 1 from fun q => q c7.1), a2, ifn (show ¬ σ 0 2 ≠ 7 from fun q => q c7.2)]
        exact Sim.same hJ0 _
      · have h7 : x = 1 → σ 0 2 < 7 := fun c => by omega
        have eE : (if x ≠ 1 then f_R_enter_26 n x f M else if M 1 2 < 7 then f_R_enter_26 n x f M else some (-4, M)) = f_R_enter_26 n x f M := by
          by_cases c : x = 1
          · rw [ifn (show ¬ x ≠ 1 from fun q => q c), c12, ifp (h7 c)]
          · rw [ifp c]
        have hIH := hI.1
        have hCH := k1
        rw [hh] at hIH hCH
        obtain ⟨M', y1, y2, y3⟩ := e_R_enter26 hn (by omega) hIH hCH hx hxf h7
        have E := e_m_holder27 (N := N) (n := n) (td := 0) (y := y) (show h ≤ 15 by omega) (a1.trans hh) a2 (by omega) h7
        rw [hyf] at E
        rw [eE, y1, bnd_mk, E]
        suffices JJ : J M' (mset (mset (mset (mset N 1 h x) 2 h f) 0 2 (σ 0 2 + if x = 1 then 1 else 0)) 0 1 ((h + 1 : Nat) : Int)) from Sim.same JJ _
        have U := IH_up hIH (by omega) hx hf hxf h7
        have e1 : mset (mset (mset (mset σ 1 h x) 2 h f) 0 2 (σ 0 2 + if x = 1 then 1 else 0)) 0 1 ((h + 1 : Nat) : Int) 1 = upRw (σ 1) h x := by
          funext j
          rw [mg_k _ _ _ (by decide), mg_k _ _ _ (by decide), mg_k _ _ _ (by decide), mg_up]
        have e2 : mset (mset (mset (mset σ 1 h x) 2 h f) 0 2 (σ 0 2 + if x = 1 then 1 else 0)) 0 1 ((h + 1 : Nat) : Int) 2 = upRw (σ 2) h f := by
          funext j
          rw [mg_k _ _ _ (by decide), mg_k _ _ _ (by decide), mg_up]
          congr 1
        have hS := IS_up (ho' := ((h + 1 : Nat) : Int)) (kd' := upRw (σ 1) h x) hI.2.1 (by omega) (fun i hi => upRw_j (by omega))
        have hM := IM_up (ho' := ((h + 1 : Nat) : Int)) hI.2.2.2.1 (by omega)
        refine ⟨mset (mset (mset (mset σ 1 h x) 2 h f) 0 2 (σ 0 2 + if x = 1 then 1 else 0)) 0 1 ((h + 1 : Nat) : Int), ?_, (((hA.set 1 h x).set 2 h f).set 0 2 _).set 0 1 _, ?_⟩
        · unfold Inv
          rw [e1, e2]
          exact ⟨U, hS, hI.2.2.1, hM, hI.2.2.2.2⟩
        · unfold RelC
          rw [e1, e2]
          refine ⟨y3, ?_⟩
          rw [y2 1 4 rfl, y2 1 16 rfl, y2 2 0 rfl, y2 2 1 rfl, y2 0 8 rfl, y2.row (k := 10) (fun _ => rfl), y2.row (k := 11) (fun _ => rfl), y2.row (k := 12) (fun _ => rfl), y2.row (k := 13) (fun _ => rfl), y2.row (k := 14) (fun _ => rfl), y2.row (k := 21) (fun _ => rfl), y2.row (k := 22) (fun _ => rfl), y2.row (k := 23) (fun _ => rfl), y2.row (k := 24) (fun _ => rfl), y2.row (k := 27) (fun _ => rfl), y2.row (k := 28) (fun _ => rfl), y2.row (k := 29) (fun _ => rfl), y2.row (k := 30) (fun _ => rfl), y2.row (k := 31) (fun _ => rfl), y2.row (k := 32) (fun _ => rfl), y2.row (k := 33) (fun _ => rfl), y2.row (k := 34) (fun _ => rfl), y2.row (k := 35) (fun _ => rfl), y2.row (k := 36) (fun _ => rfl), y2.row (k := 37) (fun _ => rfl), y2.row (k := 100) (fun _ => rfl), y2.row (k := 101) (fun _ => rfl), y2.row (k := 102) (fun _ => rfl), y2.row (k := 103) (fun _ => rfl), y2.row (k := 104) (fun _ => rfl), y2.row (k := 105) (fun _ => rfl)]
          exact ⟨k2, k3, k4, k5, k6⟩
  unfold f_W_holder f_m_holder f_W_holder_33
  rw [e_m_in, bnd_mk]
  by_cases c : 0 ≤ x ∧ x ≤ 5
  · rw [ifn (show ¬ x < 0 by omega), ifn (show ¬ 5 < x by omega), ifp c, ifn (show ¬ (1 : Int) = 0 by decide)]
    by_cases c3 : x = 3
    · rw [ifn (show ¬ x ≠ 3 from fun q => q c3), ifn (show ¬ x ≠ 3 from fun q => q c3), ifn (show ¬ x ≠ 3 from fun q => q c3), e_m_in, bnd_mk]
      by_cases d : 0 ≤ y ∧ y ≤ 3
      · rw [ifn (show ¬ y < 0 by omega), ifp (show y < 4 by omega), ifp d, ifp (show (1 : Int) ≠ 0 by decide)]
        exact core x y y c (by omega) (ifp c3)
      · rw [ifn d, ifn (show ¬ (0 : Int) ≠ 0 by decide)]
        by_cases d0 : y < 0
        · rw [ifp d0]; exact Sim.same hJ0 _
        · rw [ifn d0, ifn (show ¬ y < 4 by omega)]; exact Sim.same hJ0 _
    · rw [ifp c3, ifp c3, ifp c3]
      exact core x y 0 c (by decide) (ifn c3)
  · rw [ifn c, ifp rfl]
    by_cases c0 : x < 0
    · rw [ifp c0]; exact Sim.same hJ0 _
    · rw [ifn c0, ifp (show 5 < x by omega)]; exact Sim.same hJ0 _
end
