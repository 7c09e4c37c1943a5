/-! proof, count. -/
section
variable {σ : Mm} {M N : Mm}
/-- a proof's pairs, both sides in step -/
theorem l_proof (n : Nat) (hn : 3000 ≤ n) (hI : Inv σ) {own sn : Nat → Int} {d : Int} (t : Nat) (ht : t < 6) (i : Int) (hi : inR i) (c : Nat) (hc : c ≤ 7) (h1 : σ 47 t = 1) (tr : Int) : ∀ (r k g g' : Nat) (M N : Mm) (s : LSt), k + r = c → r < g → r < g' → (k = 0 ∨ (0 ≤ i ∧ i ≤ 60)) → RelC M σ → AgR N σ → LK M σ d → TL M σ d own sn → RT N σ d own sn → okS σ s → CBk M σ d own sn s → RBy N σ s.1 → ∃ (v : Nat) (M' N' : Mm), lp_W_goodPairs_34 n g t i c k k M = some ((v : Int), M') ∧ lp_m_proof_95 n g' t i c tr k N = f_m_proof_232 n tr v N' ∧ RelC M' σ ∧ AgR N' σ ∧ v ≤ c := by
  have b := hI.1.2.1
  have hTt := hI.2.2.2.2.1 t ht
  intro r
  induction r with
  | zero =>
    intro k g g' M N s hk hg hg' hik hC hA hL hT hR hok hB hRB
    obtain ⟨g1, rfl, _⟩ := f_pos hg
    obtain ⟨g2, rfl, _⟩ := f_pos hg'
    refine ⟨k, M, N, ?_, ?_, hC, hA, by omega⟩
    · show f_W_goodPairs_34 n (lp_W_goodPairs_34 n g1) t i c k k M = _
      unfold f_W_goodPairs_34
      rw [ifp (by omega)]
    · show f_m_proof_95 n (lp_m_proof_95 n g2) t i c tr k N = _
      unfold f_m_proof_95
      rw [ifp (by omega)]
  | succ r ih =>
    intro k g g' M N s hk hg hg' hik hC hA hL hT hR hok hB hRB
    obtain ⟨g1, rfl, hg1⟩ := f_pos hg
    obtain ⟨g2, rfl, hg2⟩ := f_pos hg'
    have c14 : M 14 = σ 48 := hC.2.2.2.2.1.2.1
    have cit := hC.2.2.2.2.1.2.2
    have stop : ∃ (v : Nat) (M' N' : Mm), some ((k : Int), M) = some ((v : Int), M') ∧ f_m_proof_232 n tr k N = f_m_proof_232 n tr v N' ∧ RelC M' σ ∧ AgR N' σ ∧ v ≤ c := ⟨k, M, N, rfl, rfl, hC, hA, by omega⟩
    show ∃ (v : Nat) (M' N' : Mm), f_W_goodPairs_34 n (lp_W_goodPairs_34 n g1) t i c k k M = some ((v : Int), M') ∧ f_m_proof_95 n (lp_m_proof_95 n g2) t i c tr k N = f_m_proof_232 n tr v N' ∧ _
    have hp : w32 (i + 2 * (k : Int)) = i + 2 * (k : Int) := by
      rcases hik with q | q
      · subst q
        have h2 := hi.1
        have h3 := hi.2
        exact w32_s (by omega) (by omega)
      · exact w32_s (by omega) (by omega)
    unfold f_W_goodPairs_34 f_m_proof_95
    rw [ifn (show ¬ (c : Int) ≤ k by omega), ifn (show ¬ (c : Int) ≤ k by omega), w32_s (x := 2 * (k : Int)) (by omega) (by omega), hp, e_W_hasPlaces n M t _ 2 (by omega) (by rw [Int.toNat_natCast, c14]; exact hTt.2.1) (by decide), bnd_mk, Int.toNat_natCast, c14, ckp (show (0 : Int) ≤ (t : Int) ∧ (t : Int) < 6 by omega), ckp (show (0 : Int) ≤ (t : Int) ∧ (t : Int) < 6 by omega), hA.row (k := 47) (fun _ => rfl), hA.row (k := 48) (fun _ => rfl), h1, ifn (show ¬ (1 : Int) < 0 by decide), w32_s (x := σ 48 t - 2 * (k : Int)) (by omega) (by omega), w32_s (x := σ 48 t - 2 * (k : Int) - 2) (by omega) (by omega)]
    by_cases c1 : 0 ≤ i ∧ i ≤ σ 48 t - 2 * (k : Int) - 2
    · rw [ifp (show 0 ≤ i + 2 * (k : Int) ∧ 0 ≤ (2 : Int) ∧ i + 2 * (k : Int) ≤ σ 48 t - 2 by omega), n1, ifn (show ¬ i < 0 by omega), ifn (show ¬ σ 48 t - 2 * (k : Int) - 2 < i by omega)]
      obtain ⟨j, rfl⟩ := nat_of c1.1
      have w1 : w32 ((j : Int) + 2 * (k : Int) + 1) = (j : Int) + 2 * (k : Int) + 1 := w32_s (by omega) (by omega)
      have w2 : w32 (60 * (t : Int)) = 60 * (t : Int) := w32_s (by omega) (by omega)
      have w3 : w32 (60 * (t : Int) + j) = 60 * (t : Int) + j := w32_s (by omega) (by omega)
      have w4 : w32 (60 * (t : Int) + j + 2 * (k : Int)) = 60 * (t : Int) + j + 2 * (k : Int) := w32_s (by omega) (by omega)
      have w5 : w32 (60 * (t : Int) + j + 2 * (k : Int) + 1) = 60 * (t : Int) + j + 2 * (k : Int) + 1 := w32_s (by omega) (by omega)
      have i1' : M (100 + t) ((j : Int) + 2 * (k : Int)).toNat = σ 49 (60 * t + (j + 2 * k)) := by
        have := cit t (j + 2 * k) ht (by omega)
        rw [rw6_M M ht] at this
        rw [← this, show ((j : Int) + 2 * (k : Int)).toNat = j + 2 * k by omega]
      have i2' : M (100 + t) ((j : Int) + 2 * (k : Int) + 1).toNat = σ 49 (60 * t + (j + 2 * k + 1)) := by
        have := cit t (j + 2 * k + 1) ht (by omega)
        rw [rw6_M M ht] at this
        rw [← this, show ((j : Int) + 2 * (k : Int) + 1).toNat = j + 2 * k + 1 by omega]
      have n1' : (60 * (t : Int) + j + 2 * (k : Int)).toNat = 60 * t + (j + 2 * k) := by omega
      have n2' : (60 * (t : Int) + j + 2 * (k : Int) + 1).toNat = 60 * t + (j + 2 * k + 1) := by omega
      simp only [w1, w2, w3, w4, w5, n1', n2', Int.toNat_natCast, hA.row (k := 49) (fun _ => rfl), i1', i2', ckp (show (0 : Int) ≤ (t : Int) ∧ (t : Int) < 6 by omega), ckp (show (0 : Int) ≤ (j : Int) + 2 * (k : Int) ∧ (j : Int) + 2 * (k : Int) < 60 by omega), ckp (show (0 : Int) ≤ (j : Int) + 2 * (k : Int) + 1 ∧ (j : Int) + 2 * (k : Int) + 1 < 60 by omega), ckp (show (0 : Int) ≤ 60 * (t : Int) + j + 2 * (k : Int) ∧ 60 * (t : Int) + j + 2 * (k : Int) < 360 by omega), ckp (show (0 : Int) ≤ 60 * (t : Int) + j + 2 * (k : Int) + 1 ∧ 60 * (t : Int) + j + 2 * (k : Int) + 1 < 360 by omega)]
      generalize w32 (σ 49 (60 * t + (j + 2 * k))) = f
      generalize w32 (σ 49 (60 * t + (j + 2 * k + 1))) = q
      unfold f_U_tells
      simp only [e_R_isFirm n M f (by rw [hC.1.2.1]; exact b.2), e_m_isFirm n N f (by rw [hA 0 1 rfl]; exact b), bnd_mk, hA 0 1 rfl, hC.1.2.1, hC.1.2.2.2.2.2.1, hA.row (k := 1) (fun _ => rfl), e_R_isRulerU n hI hC q, e_m_isRuler n hn hI hA q]
      by_cases c2 : 0 ≤ f ∧ f < σ 0 1 ∧ σ 1 f.toNat = 1
      · obtain ⟨x, rfl⟩ := nat_of c2.1
        have hF : isF (σ 1) x = true := isF_of (by have := c2.2.2; rw [Int.toNat_natCast] at this; exact this)
        have e45 : M 45 x = s.1 x := by rw [hB.1 x c2.2.1]; unfold bk; rw [ifp hF]
        have e29 := hRB x (by omega)
        have c2' : 0 ≤ (x : Int) ∧ (x : Int) < σ 0 1 ∧ σ 1 x = 1 := by have := c2; rw [Int.toNat_natCast] at this; exact this
        simp only [ckp (show (0 : Int) ≤ (x : Int) ∧ (x : Int) < 16 by omega), Int.toNat_natCast, e45]
        simp only [ifp c2', i1]
        by_cases c3 : 0 ≤ s.1 x
        · rw [ifp (show 0 ≤ N 29 x by rw [e29, ifn (by omega)]; exact c3)]
          by_cases c4 : 0 ≤ q ∧ q < σ 0 1 ∧ isU (σ 1) (σ 2) q.toNat = true
          · simp only [ifp c4, n1, ifp c3, bnd_mk, n0]; exact stop
          · simp only [ifn c4, n0, bnd_mk]; exact stop
        · rw [ifn (show ¬ 0 ≤ N 29 x by rw [e29, ifp (by omega)]; decide)]
          by_cases c4 : 0 ≤ q ∧ q < σ 0 1 ∧ isU (σ 1) (σ 2) q.toNat = true
          · obtain ⟨y, rfl⟩ := nat_of c4.1
            have hU : isU (σ 1) (σ 2) y = true := by have := c4.2.2; rw [Int.toNat_natCast] at this; exact this
            obtain ⟨v, v1, v2, v3⟩ := e_m_groupOf n hn hI hA hRB (r := y) c4.2.1 hU
            have c4' : 0 ≤ (y : Int) ∧ (y : Int) < σ 0 1 ∧ isU (σ 1) (σ 2) y = true := ⟨c4.1, c4.2.1, hU⟩
            simp only [Int.toNat_natCast]
            simp only [ifp c4', n1, i1, ifn c3, v1, bnd_mk, e_m_carries n hn hI hA c2.2.1 (hR x c2.2.1 hF) v, carB_c (q := grp σ s.1 y) v3, e_U_carriedByGroup n hI hC hL hT hB c2.2.1 hF (show y < 16 by omega)]
            by_cases c5 : carB σ d own sn x (grp σ s.1 y) = true
            · simp only [ifp c5, n1]
              obtain ⟨M2, m1, m2, m3⟩ := e_U_crown n hn hI hC hT hB (x := x) (r := y) c2.2.1 (by omega) hF (by omega) (okS_lt hI hok c2.2.1 hF (by omega))
              rw [m1, bnd_mk, bnd_mk, n1, w_succ (by omega)]
              have fr : Fr cdR [29] N (mset N 29 x y) := Fr.rf.set rfl
              obtain ⟨v', M', N', z1, z2, z3⟩ := ih (k + 1) g1 g2 M2 (mset N 29 x y) (lcrn x y s) (by omega) hg1 hg2 (Or.inr ⟨by omega, by omega⟩) (hC.fr m2 (by decide)) (hA.fr fr (by decide)) (hL.fr hI m2 (by decide)) (hT.fr hI m2 (by decide)) (hR.fr fr (by decide)) (okS_crn hok c2.2.1 hF (by omega) c4.2.1 hU) m3 (by
                intro z hz
                show mset N 29 x y 29 z = if (if z = x then (y : Int) else s.1 z) < 0 then -1 else (if z = x then (y : Int) else s.1 z)
                by_cases e : z = x
                · rw [e, mg_s, ifp rfl, ifn (by omega)]
                · rw [mg_j _ _ _ e, ifn e]; exact hRB z hz)
              exact ⟨v', M', N', z1, z2, z3⟩
            · simp only [ifn c5, n0, bnd_mk]; exact stop
          · simp only [ifn c4, n0, i0, bnd_mk]; exact stop
      · simp only [ifn c2, i0, n0, bnd_mk]; exact stop
    · rw [ifn (show ¬ (0 ≤ i + 2 * (k : Int) ∧ 0 ≤ (2 : Int) ∧ i + 2 * (k : Int) ≤ σ 48 t - 2) by omega), n0]
      by_cases c2 : i < 0
      · rw [ifp c2, ckp (show (0 : Int) ≤ (t : Int) ∧ (t : Int) < 6 by omega)]; exact stop
      · rw [ifn c2, ifp (show σ 48 t - 2 * (k : Int) - 2 < i by omega), ckp (show (0 : Int) ≤ (t : Int) ∧ (t : Int) < 6 by omega), ckp (show (0 : Int) ≤ (t : Int) ∧ (t : Int) < 6 by omega)]; exact stop
theorem q_proof (n : Nat) (hn : 3000 ≤ n) (x i c : Int) (hi : inR i) (hJ : J M N) : Sim (f_W_proof n x i c M) (f_m_proof n x i c N) := by
  have hJ0 := hJ
  obtain ⟨σ, hI, hA, hC⟩ := hJ
  have bt := hI.1.1
  have c13 : M 13 = σ 47 := hC.2.2.2.2.1.1
  have c14 : M 14 = σ 48 := hC.2.2.2.2.1.2.1
  have a47 : N 47 = σ 47 := hA.row fun _ => rfl
  have a48 : N 48 = σ 48 := hA.row fun _ => rfl
  unfold f_W_proof f_m_proof
  simp only [e_W_isTape, e_m_isTape, e_m_in, bnd_mk]
  by_cases c1 : 0 ≤ x ∧ x < 6
  · obtain ⟨t, rfl⟩ := nat_of c1.1
    have hTt := hI.2.2.2.2.1 t (by omega)
    by_cases c2 : 1 ≤ c ∧ c ≤ 7
    · obtain ⟨k, rfl⟩ := nat_of (show 0 ≤ c by omega)
      simp only [ifp c1, ifp c2, n1, ifn (show ¬ (k : Int) < 1 by omega), ifp c2.2, ckp c1, Int.toNat_natCast, c13, a47]
      -- the reference's looking
      obtain ⟨N1, g1, g2, g3, g4⟩ := e_m_look n hn hI hA bt
      have hA1 := hA.fr g2 (by decide)
      obtain ⟨N2, p1, p2, p3, p4⟩ := e_m_nobodyRules n hn N1
      have hA2 := hA1.fr p2 (by decide)
      by_cases c3 : σ 47 t = -1
      · rw [ifn (show ¬ σ 47 t ≠ -1 by omega), ifp (show σ 47 t < 0 by omega)]
        unfold f_m_proof_46 f_m_proof_78
        rw [ckp c1, Int.toNat_natCast, a47, ifp (show σ 47 t < 0 by omega), hA 0 0 rfl, g1, bnd_mk, p1, bnd_mk]
        have e : lp_m_proof_95 n n t i k 1 0 N2 = some (100, N2) := by
          obtain ⟨n', rfl, _⟩ := f_pos (show 0 < n by omega)
          show f_m_proof_95 (n' + 1) (lp_m_proof_95 (n' + 1) n') t i k 1 0 N2 = _
          unfold f_m_proof_95 f_m_proof_232
          rw [ifn (show ¬ (k : Int) ≤ 0 by omega), ckp c1, Int.toNat_natCast, hA2.row (k := 47) (fun _ => rfl), ifp (show σ 47 t < 0 by omega), ifn (show ¬ (1 : Int) = 0 by decide), w32_s (by decide) (by decide)]
          rfl
        rw [e]
        exact ⟨100, M, N2, rfl, rfl, σ, hI, hA2, hC⟩
      · rw [ifp (show σ 47 t ≠ -1 from c3), ifn (show ¬ σ 47 t < 0 by omega)]
        by_cases c4 : σ 47 t = 1
        · rw [ifp c4, ifp c4]
          unfold f_W_goodPairs
          obtain ⟨M1, m1, m2, m3, m4, m5⟩ := e_U_look n hn hI hC bt
          have hC1 := hC.fr m2 (by decide)
          obtain ⟨M2, q1, q2, q3⟩ := e_U_tally n hn hI hC1 m3 (okO_day hI _) m4
          have hC2 := hC1.fr q2 (by decide)
          obtain ⟨M3, r1, r2, r3⟩ := e_U_clear n hn hI hC2 q3
          have hC3 := hC2.fr r2 (by decide)
          have hL3 := (m3.fr hI q2 (by decide)).fr hI r2 (by decide)
          have fin : ∀ tr : Int, tr = (if 0 ≤ i ∧ i ≤ σ 48 t - 2 * (k : Int) then 0 else 1) → Sim (bnd (lp_W_goodPairs_34 n n t i k 0 0 M3) (fun r11 M11 => bnd (f_W_hasPlaces n t i (w32 (2 * (k : Int))) M11) (fun r12 M12 => if r12 = 0 then some (w32 (r11 + 100), M12) else some (r11, M12)))) (lp_m_proof_95 n n t i k tr 0 N2) := by
            intro tr htr
            obtain ⟨v, M4, N4, z1, z2, hC4, hA4, hv⟩ := l_proof n hn hI t (by omega) i hi k (by omega) c4 tr k 0 n n M3 N2 (litr σ (σ 0 0) (fun s => ow σ s (σ 0 0)) (fun s => si σ s (σ 0 0)) 0) (by omega) (by omega) (by omega) (Or.inl rfl) hC3 hA2 hL3 (q3.fr hI r2 (by decide)) (g3.fr p2 (by decide)) (okS_0 σ _ _ _) r3 (fun x hx => by rw [p3 x hx]; rfl)
            rw [show ((0 : Nat) : Int) = 0 from rfl] at z1 z2
            have c14' : M4 14 = σ 48 := hC4.2.2.2.2.1.2.1
            rw [z1, z2, bnd_mk, w32_s (x := 2 * (k : Int)) (by omega) (by omega), e_W_hasPlaces n M4 t i _ c1 (by rw [Int.toNat_natCast, c14']; exact hTt.2.1) (by omega), bnd_mk, Int.toNat_natCast, c14']
            have hJ' : J M4 N4 := ⟨σ, hI, hA4, hC4⟩
            unfold f_m_proof_232
            by_cases z : 0 ≤ i ∧ i ≤ σ 48 t - 2 * (k : Int)
            · rw [ifp z] at htr
              simp only [ifp (show 0 ≤ i ∧ 0 ≤ 2 * (k : Int) ∧ i ≤ σ 48 t - 2 * (k : Int) from ⟨z.1, by omega, z.2⟩), i1, ifp htr]
              exact Sim.same hJ' _
            · rw [ifn z] at htr
              simp only [ifn (show ¬ (0 ≤ i ∧ 0 ≤ 2 * (k : Int) ∧ i ≤ σ 48 t - 2 * (k : Int)) from fun q => z ⟨q.1, q.2.2⟩), i0, ifn (show ¬ tr = 0 by omega), if_true]
              exact Sim.same hJ' _
          unfold f_m_proof_46 f_m_proof_78
          simp only [show M 1 0 = σ 0 0 from hC.1.1, m1, bnd_mk, q1, r1, ckp c1, Int.toNat_natCast, a47, a48, show N 0 0 = σ 0 0 from hA 0 0 rfl, g1, p1]
          rw [ifn (show ¬ σ 47 t < 0 by omega)]
          have f2 := fin
          have e2 : w32 (2 * (k : Int)) = 2 * (k : Int) := w32_s (by omega) (by omega)
          have e3 : w32 (σ 48 t - 2 * (k : Int)) = σ 48 t - 2 * (k : Int) := w32_s (by omega) (by omega)
          by_cases z1 : i < 0
          · rw [ifp z1]
            exact fin 1 (by rw [ifn (by omega)])
          · rw [ifn z1]
            by_cases z2 : i ≤ σ 48 t - 2 * (k : Int)
            · rw [ifp (show i ≤ w32 (σ 48 t - w32 (2 * (k : Int))) by rw [e2, e3]; exact z2)]
              exact fin 0 (by rw [ifp ⟨by omega, z2⟩])
            · rw [ifn (show ¬ i ≤ w32 (σ 48 t - w32 (2 * (k : Int))) by rw [e2, e3]; exact z2)]
              exact fin 1 (by rw [ifn (fun q => z2 q.2)])
        · rw [ifn c4, ifn c4]; exact Sim.same hJ0 _
    · simp only [ifp c1, ifn c2, n1, n0]
      by_cases z : c < 1
      · rw [ifp z]; exact Sim.same hJ0 _
      · rw [ifn z, ifn (show ¬ c ≤ 7 by omega)]; exact Sim.same hJ0 _
  · simp only [ifn c1, n0]; exact Sim.same hJ0 _
/-- the rulers, listed by the reference -/
theorem e_m_listRulers {N : Mm} (n : Nat) (hn : 3000 ≤ n) (hI : Inv σ) (hA : AgR N σ) : ∃ N', f_m_listRulers n N = some (0, N') ∧ Fr cdR [31, 32, 1051] N N' ∧ N' 0 51 = (cn (σ 0 1).toNat (isU (σ 1) (σ 2)) : Int) ∧ (∀ h : Nat, (h : Int) < σ 0 1 → isU (σ 1) (σ 2) h = true → N' 31 (cn h (isU (σ 1) (σ 2))) = (h : Int)) ∧ (∀ h : Nat, (h : Int) < σ 0 1 → isF (σ 1) h = true → N' 32 (cn h (isF (σ 1))) = (h : Int)) := by
  have b := hI.1.2.1
  have bf := hI.1.2.2.2.2.2
  have go2 : ∀ (k h g : Nat) (N : Mm), h + k = (σ 0 1).toNat → k < g → AgR N σ → (∀ x : Nat, x < h → isF (σ 1) x = true → N 32 (cn x (isF (σ 1))) = (x : Int)) → ∃ N', lp_m_listRulers_56 n g (cn h (isF (σ 1))) h N = some (0, N') ∧ Fr cdR [32] N N' ∧ (∀ x : Nat, (x : Int) < σ 0 1 → isF (σ 1) x = true → N' 32 (cn x (isF (σ 1))) = (x : Int)) := by
    intro k
    induction k with
    | zero =>
      intro h g N hh hg hA hP
      obtain ⟨g', rfl, _⟩ := f_pos hg
      show ∃ N', f_m_listRulers_56 n (lp_m_listRulers_56 n g') _ h N = _ ∧ _
      unfold f_m_listRulers_56
      rw [ifp (by rw [hA 0 1 rfl]; omega)]
      exact ⟨N, rfl, Fr.rf, fun x hx hF => hP x (by omega) hF⟩
    | succ k ih =>
      intro h g N hh hg hA hP
      obtain ⟨g', rfl, hg'⟩ := f_pos hg
      show ∃ N', f_m_listRulers_56 n (lp_m_listRulers_56 n g') _ h N = _ ∧ _
      unfold f_m_listRulers_56 f_m_listRulers_87
      rw [ifn (by rw [hA 0 1 rfl]; omega), ckp (by omega), Int.toNat_natCast, hA.row (k := 1) (fun _ => rfl)]
      by_cases c : σ 1 h = 1
      · have hlt := cn_lt (p := isF (σ 1)) (show h < (σ 0 1).toNat by omega) (isF_of c)
        rw [ifp c, ckp (by omega), w_succ (by omega), w_succ (by omega), Int.toNat_natCast, ← cn_t (isF_of c)]
        have fr : Fr cdR [32] N (mset N 32 (cn h (isF (σ 1))) h) := Fr.rf.set rfl
        obtain ⟨N2, k1, k2, k3⟩ := ih (h + 1) g' (mset N 32 (cn h (isF (σ 1))) h) (by omega) hg' (hA.fr fr (by decide)) (fun x hx hF => by
          by_cases e : x = h
          · rw [e, mg_s]
          · rw [mg_j _ _ _ (fun q => e (cn_inj hF (isF_of c) q))]; exact hP x (by omega) hF)
        exact ⟨N2, k1, fr.trans k2, k3⟩
      · rw [ifn c, w_succ (by omega), ← cn_f (p := isF (σ 1)) (k := h) (decide_eq_false c)]
        exact ih (h + 1) g' N (by omega) hg' hA (fun x hx hF => by
          by_cases e : x = h
          · rw [e] at hF; exact absurd (of_decide_eq_true hF) c
          · exact hP x (by omega) hF)
  have go : ∀ (k h g : Nat) (N : Mm), h + k = (σ 0 1).toNat → k < g → AgR N σ → N 0 51 = (cn h (isU (σ 1) (σ 2)) : Int) → (∀ x : Nat, x < h → isU (σ 1) (σ 2) x = true → N 31 (cn x (isU (σ 1) (σ 2))) = (x : Int)) → ∃ N', lp_m_listRulers_7 n g h N = lp_m_listRulers_56 n n 0 0 N' ∧ Fr cdR [31, 1051] N N' ∧ N' 0 51 = (cn (σ 0 1).toNat (isU (σ 1) (σ 2)) : Int) ∧ (∀ x : Nat, (x : Int) < σ 0 1 → isU (σ 1) (σ 2) x = true → N' 31 (cn x (isU (σ 1) (σ 2))) = (x : Int)) := by
    intro k
    induction k with
    | zero =>
      intro h g N hh hg hA h51 hP
      obtain ⟨g', rfl, _⟩ := f_pos hg
      have e : h = (σ 0 1).toNat := by omega
      show ∃ N', f_m_listRulers_7 n (lp_m_listRulers_7 n g') h N = _ ∧ _
      unfold f_m_listRulers_7
      rw [ifp (by rw [hA 0 1 rfl]; omega)]
      exact ⟨N, rfl, Fr.rf, by rw [← e]; exact h51, fun x hx hF => hP x (by omega) hF⟩
    | succ k ih =>
      intro h g N hh hg hA h51 hP
      obtain ⟨g', rfl, hg'⟩ := f_pos hg
      show ∃ N', f_m_listRulers_7 n (lp_m_listRulers_7 n g') h N = _ ∧ _
      have hle := cn_le (isU (σ 1) (σ 2)) h
      unfold f_m_listRulers_7 f_m_listRulers_46
      rw [ifn (by rw [hA 0 1 rfl]; omega), e_m_isRuler n hn hI hA, bnd_mk, h51, w_succ (by omega)]
      simp only [Int.toNat_natCast]
      by_cases c : isU (σ 1) (σ 2) h = true
      · simp only [ifp (show 0 ≤ (h : Int) ∧ (h : Int) < σ 0 1 ∧ isU (σ 1) (σ 2) h = true from ⟨by omega, by omega, c⟩), n1]
        rw [ckp (by omega), mg_k _ _ _ (show (0 : Nat) ≠ 31 by decide), h51, w_succ (by omega), ← cn_t c]
        have fr : Fr cdR [31, 1051] N (mset (mset N 31 (cn h (isU (σ 1) (σ 2))) h) 0 51 (cn (h + 1) (isU (σ 1) (σ 2)))) := (Fr.rf.set rfl).set rfl
        obtain ⟨N2, k1, k2, k3, k4⟩ := ih (h + 1) g' (mset (mset N 31 (cn h (isU (σ 1) (σ 2))) h) 0 51 (cn (h + 1) (isU (σ 1) (σ 2)))) (by omega) hg' (hA.fr fr (by decide)) (mg_s _ _ _ _) (fun x hx hF => by
          rw [mg_k _ _ _ (by decide)]
          by_cases e : x = h
          · rw [e, mg_s]
          · rw [mg_j _ _ _ (fun q => e (cn_inj hF c q))]; exact hP x (by omega) hF)
        exact ⟨N2, k1, fr.trans k2, k3, k4⟩
      · simp only [ifn (show ¬ (0 ≤ (h : Int) ∧ (h : Int) < σ 0 1 ∧ isU (σ 1) (σ 2) h = true) from fun q => c q.2.2), n0]
        exact ih (h + 1) g' N (by omega) hg' hA (by rw [cn_f (by simpa using c)]; exact h51) (fun x hx hF => by
          by_cases e : x = h
          · rw [e] at hF; exact absurd hF c
          · exact hP x (by omega) hF)
  have f0 : Fr cdR [1051] N (mset N 0 51 0) := Fr.rf.set rfl
  obtain ⟨N1, k1, k2, k3, k4⟩ := go (σ 0 1).toNat 0 n (mset N 0 51 0) (by omega) (by omega) (hA.fr f0 (by decide)) (mg_s _ _ _ _) (fun x hx => by omega)
  have f1 : Fr cdR [31, 32, 1051] N N1 := (f0.mono (by decide)).trans (k2.mono (by decide))
  obtain ⟨N2, m1, m2, m3⟩ := go2 (σ 0 1).toNat 0 n N1 (by omega) (by omega) (hA.fr f1 (by decide)) (fun x hx => by omega)
  refine ⟨N2, ?_, f1.trans (m2.mono (by decide)), (m2 0 51 rfl).trans k3, fun h hh hU => (m2 31 _ rfl).trans (k4 h hh hU), m3⟩
  unfold f_m_listRulers
  have k1' : lp_m_listRulers_7 n n 0 (mset N 0 51 0) = _ := k1
  rw [k1']
  exact m1
theorem q_count (n : Nat) (hn : 3000 ≤ n) (w : Int) (hJ : J M N) : Sim (f_W_count n w M) (f_m_count n w N) := by
  have hJ0 := hJ
  obtain ⟨σ, hI, hA, hC⟩ := hJ
  have b1 := hI.2.1.1
  have b2 := hI.2.1.2.1
  obtain ⟨N1, g1, g2, g3, -⟩ := e_m_listRulers n hn hI hA
  have hJ1 : J M N1 := ⟨σ, hI, hA.fr g2 (by decide), hC⟩
  unfold f_W_count f_m_count
  simp only [g1, bnd_mk, g3, e_R_sales, hC.1.1, hC.1.2.1, hC.1.2.2.1, hC.2.1.1, hC.2.1.2.1, hC.2.2.1.1, hC.2.2.1.2.1, hC.2.2.2.1.1, hC.1.2.2.2.1, show M 10 (20 : Int).toNat = σ 0 71 from hC.2.2.2.2.2.2.1, hA 0 0 rfl, hA 0 1 rfl, hA 0 2 rfl, hA 0 3 rfl, hA 0 4 rfl, hA 0 18 rfl, hA 0 19 rfl, hA 0 63 rfl, hA 0 71 rfl]
  rw [w32_s (by omega) (by omega), show σ 0 3 + σ 0 4 - σ 0 3 = σ 0 4 by omega]
  by_cases c0 : w = 0
  · rw [ifp c0, ifp c0]; exact Sim.same hJ0 _
  · rw [ifn c0, ifn c0]
    by_cases c1 : w = 1
    · rw [ifp c1, ifp c1]; exact Sim.same hJ0 _
    · rw [ifn c1, ifn c1]
      by_cases c2 : w = 2
      · rw [ifp c2, ifp c2]; exact Sim.same hJ0 _
      · rw [ifn c2, ifn c2]
        by_cases c3 : w = 3
        · rw [ifp c3, ifp c3]; exact Sim.same hJ0 _
        · rw [ifn c3, ifn c3]
          by_cases c4 : w = 4
          · rw [ifp c4, ifp c4]; exact Sim.same hJ0 _
          · rw [ifn c4, ifn c4]
            by_cases c5 : w = 5
            · rw [ifp c5, ifp c5]; exact Sim.same hJ0 _
            · rw [ifn c5, ifn c5]
              by_cases c6 : w = 6
              · rw [ifp c6, ifp c6]; exact Sim.same hJ0 _
              · rw [ifn c6, ifn c6]
                by_cases c7 : w = 7
                · rw [ifp c7, ifp c7]; exact Sim.same hJ0 _
                · rw [ifn c7, ifn c7]
                  by_cases c8 : w = 8
                  · rw [ifp c8, ifp c8]; exact Sim.same hJ1 _
                  · rw [ifn c8, ifn c8]
                    by_cases c9 : w = 9
                    · rw [ifp c9, ifp c9]; exact Sim.same hJ0 _
                    · rw [ifn c9, ifn c9]; exact Sim.same hJ0 _
end
