/-! shift, motion, alike, trace, feed. -/
theorem l_m_shift1 (n t i o j c : Nat) (hi : 60 * t + i + c ≤ 360) (hc : c ≤ 60) (N0 : Mm) : ∀ (r k f : Nat) (N : Mm), k + r = c → r < f → Fr cdR [50] N0 N → (∀ q, q < k → N 50 q = N0 49 (60 * t + i + q)) → ∃ N', lp_m_shift_104 n f t i o j c k N = lp_m_shift_141 n n o j c 0 N' ∧ Fr cdR [50] N0 N' ∧ ∀ q, q < c → N' 50 q = N0 49 (60 * t + i + q) := by
  intro r
  induction r with
  | zero =>
    intro k f N hk hf hF hq
    obtain ⟨f', rfl, hf'⟩ := f_pos hf
    have e : k = c := by omega
    subst e
    refine ⟨N, ?_, hF, hq⟩
    show f_m_shift_104 n (lp_m_shift_104 n f') t i o j k k N = _
    unfold f_m_shift_104
    rw [ifp (by omega)]
  | succ r ih =>
    intro k f N hk hf hF hq
    obtain ⟨f', rfl, hf'⟩ := f_pos hf
    show ∃ N', f_m_shift_104 n (lp_m_shift_104 n f') t i o j c k N = _ ∧ _
    unfold f_m_shift_104
    rw [ifn (by omega), w32_s (x := 60 * (t : Int)) (by omega) (by omega), w32_s (x := 60 * (t : Int) + i) (by omega) (by omega), w32_s (x := 60 * (t : Int) + i + k) (by omega) (by omega), ckp (by omega), ckp (by omega), w_succ (by omega), Int.toNat_natCast, show (60 * (t : Int) + i + k).toNat = 60 * t + i + k by omega]
    refine ih (k + 1) f' _ (by omega) hf' (hF.set rfl) fun q hq' => ?_
    by_cases e : q = k
    · subst e
      rw [mg_s]
      exact hF 49 _ rfl
    · rw [mg_j _ _ _ e]; exact hq q (by omega)
theorem l_m_shift2 (n o j c : Nat) (hi : 60 * o + j + c ≤ 360) (hc : c ≤ 60) (N0 : Mm) : ∀ (r k f : Nat) (N : Mm), k + r = c → r < f → Fr cdR [49] N0 N → (∀ q, N 49 q = if 60 * o + j ≤ q ∧ q < 60 * o + j + k then N0 50 (q - (60 * o + j)) else N0 49 q) → ∃ N', lp_m_shift_141 n f o j c k N = some ((c : Int), N') ∧ Fr cdR [49] N0 N' ∧ (∀ q, N' 49 q = if 60 * o + j ≤ q ∧ q < 60 * o + j + c then N0 50 (q - (60 * o + j)) else N0 49 q) := by
  intro r
  induction r with
  | zero =>
    intro k f N hk hf hF hq
    obtain ⟨f', rfl, hf'⟩ := f_pos hf
    have e : k = c := by omega
    subst e
    refine ⟨N, ?_, hF, hq⟩
    show f_m_shift_141 n (lp_m_shift_141 n f') o j k k N = _
    unfold f_m_shift_141
    rw [ifp (by omega)]
  | succ r ih =>
    intro k f N hk hf hF hq
    obtain ⟨f', rfl, hf'⟩ := f_pos hf
    show ∃ N', f_m_shift_141 n (lp_m_shift_141 n f') o j c k N = _ ∧ _
    unfold f_m_shift_141
    rw [ifn (by omega), w32_s (x := 60 * (o : Int)) (by omega) (by omega), w32_s (x := 60 * (o : Int) + j) (by omega) (by omega), w32_s (x := 60 * (o : Int) + j + k) (by omega) (by omega), ckp (by omega), ckp (by omega), w_succ (by omega), Int.toNat_natCast, show (60 * (o : Int) + j + k).toNat = 60 * o + j + k by omega]
    refine ih (k + 1) f' _ (by omega) hf' (hF.set rfl) fun q => ?_
    rw [mg, ifp rfl]
    by_cases e : q = 60 * o + j + k
    · rw [ifp e, ifp (by omega), e, show 60 * o + j + k - (60 * o + j) = k by omega]
      exact hF 50 _ rfl
    · rw [ifn e, hq q]
      by_cases e2 : 60 * o + j ≤ q ∧ q < 60 * o + j + k
      · rw [ifp e2, ifp (by omega)]
      · rw [ifn e2, ifn (by omega)]
theorem q_shift {M N : Mm} (n : Nat) (hn : 200 ≤ n) (x i y j c : Int) (hc9 : c ≤ 2147483647) (hJ : J M N) : Sim (f_W_shift n x i y j c M) (f_m_shift n x i y j c N) := by
  have hJ0 := hJ
  obtain ⟨σ, hI, hA, hC⟩ := hJ
  have c13 : M 13 = σ 47 := hC.2.2.2.2.1.1
  have c14 : M 14 = σ 48 := hC.2.2.2.2.1.2.1
  have cit := hC.2.2.2.2.1.2.2
  have hT := hI.2.2.2.2
  have a47 : N 47 = σ 47 := hA.row fun _ => rfl
  have a48 : N 48 = σ 48 := hA.row fun _ => rfl
  have a49 : N 49 = σ 49 := hA.row fun _ => rfl
  unfold f_W_shift f_m_shift
  simp only [e_W_isTape, e_m_isTape, bnd_mk]
  by_cases c1 : 0 ≤ x ∧ x < 6
  · obtain ⟨t, rfl⟩ := nat_of c1.1
    have ht : t < 6 := by omega
    have hTt := hT.1 t ht
    by_cases c2 : 0 ≤ y ∧ y < 6
    · obtain ⟨o, rfl⟩ := nat_of c2.1
      have ho : o < 6 := by omega
      have hTo := hT.1 o ho
      simp only [ifp c1, ifp c2, i1, n1, ckp c1, ckp c2, Int.toNat_natCast, c13, a47]
      by_cases c3 : σ 47 t = -1
      · rw [ifp c3, ifp (show σ 47 t < 0 by omega)]; exact Sim.same hJ0 _
      · rw [ifn c3, ifn (show ¬ σ 47 t < 0 by omega)]
        by_cases c4 : σ 47 o = -1
        · rw [ifn (show ¬ σ 47 o ≠ -1 by omega), ifn (show ¬ 0 ≤ σ 47 o by omega)]; exact Sim.same hJ0 _
        · rw [ifp (show σ 47 o ≠ -1 from c4), ifp (show 0 ≤ σ 47 o by omega)]
          by_cases c5 : σ 47 t = σ 47 o
          · rw [ifp c5, ifp c5, e_W_hasPlaces n M t i c c1 (by rw [Int.toNat_natCast, c14]; exact hTt.2.1) hc9, bnd_mk, e_W_hasPlaces n M o j c c2 (by rw [Int.toNat_natCast, c14]; exact hTo.2.1) hc9, bnd_mk]
            simp only [Int.toNat_natCast, c14, a48]
            by_cases d1 : c < 0
            · rw [ifp d1, ifn (show ¬ (0 ≤ i ∧ 0 ≤ c ∧ i ≤ σ 48 t - c) by omega), i0]; exact Sim.same hJ0 _
            · rw [ifn d1]
              by_cases d2 : i < 0
              · rw [ifp d2, ifn (show ¬ (0 ≤ i ∧ 0 ≤ c ∧ i ≤ σ 48 t - c) by omega), i0]; exact Sim.same hJ0 _
              · rw [ifn d2]
                have w1 : w32 (σ 48 t - c) = σ 48 t - c := w32_s (by omega) (by omega)
                have w2 : w32 (σ 48 o - c) = σ 48 o - c := w32_s (by omega) (by omega)
                rw [w1, w2]
                by_cases d3 : j < 0
                · rw [ifp d3]
                  by_cases d4 : 0 ≤ i ∧ 0 ≤ c ∧ i ≤ σ 48 t - c
                  · rw [ifp d4, i1, ifn (show ¬ (0 ≤ j ∧ 0 ≤ c ∧ j ≤ σ 48 o - c) by omega), n0]; exact Sim.same hJ0 _
                  · rw [ifn d4, i0]; exact Sim.same hJ0 _
                · rw [ifn d3]
                  by_cases d4 : i ≤ σ 48 t - c
                  · rw [ifn (show ¬ σ 48 t - c < i by omega), ifp (show 0 ≤ i ∧ 0 ≤ c ∧ i ≤ σ 48 t - c by omega), i1]
                    by_cases d5 : j ≤ σ 48 o - c
                    · rw [ifp d5, ifp (show 0 ≤ j ∧ 0 ≤ c ∧ j ≤ σ 48 o - c by omega), n1, ckp (by omega)]
                      obtain ⟨i', rfl⟩ := nat_of (show 0 ≤ i by omega)
                      obtain ⟨j', rfl⟩ := nat_of (show 0 ≤ j by omega)
                      obtain ⟨k, rfl⟩ := nat_of (show 0 ≤ c by omega)
                      obtain ⟨N1, g1, g2, g3⟩ := l_m_shift1 n t i' o j' k (by omega) (by omega) N k 0 n N (by omega) (by omega) Fr.rf (fun q hq => by omega)
                      obtain ⟨N2, g4, g5, g6⟩ := l_m_shift2 n o j' k (by omega) (by omega) N1 k 0 n N1 (by omega) (by omega) Fr.rf (fun q => by rw [ifn (by omega)])
                      have g7 : lp_m_shift_104 n n t i' o j' k 0 N = some ((k : Int), N2) := g1.trans g4
                      rw [g7]
                      simp only [Int.toNat_natCast]
                      refine Sim.mk (r := (k : Int)) rfl rfl ⟨mrow σ 49 (fun q => if 60 * o + j' ≤ q ∧ q < 60 * o + j' + k then σ 49 (60 * t + i' + (q - (60 * o + j'))) else σ 49 q), ?_, ?_, ?_⟩
                      · refine inv_tape hI (fun k j h1 h2 h3 => by rw [mr_ne h3]) ⟨hT.1, fun q => ?_⟩
                        rw [mr_eq]
                        show in64 (if 60 * o + j' ≤ q ∧ q < 60 * o + j' + k then σ 49 (60 * t + i' + (q - (60 * o + j'))) else σ 49 q)
                        split
                        · exact hT.2 _
                        · exact hT.2 q
                      · intro u v hk
                        by_cases e : u = 49
                        · subst e
                          rw [g6, mr_eq]
                          show _ = if 60 * o + j' ≤ v ∧ v < 60 * o + j' + k then σ 49 (60 * t + i' + (v - (60 * o + j'))) else σ 49 v
                          by_cases e2 : 60 * o + j' ≤ v ∧ v < 60 * o + j' + k
                          · rw [ifp e2, ifp e2, g3 _ (by omega), a49]
                          · rw [ifn e2, ifn e2, g2.row (k := 49) (fun _ => rfl), a49]
                        · rw [mr_ne e, g5 u v (by
                            unfold cdR
                            by_cases e0 : u = 0
                            · rw [ifp e0]; simp; omega
                            · rw [ifn e0]; simp; omega)]
                          exact hA.fr (L := [50]) g2 rfl u v hk
                      · refine relC_tape hC (Fr.rowset Fr.rf (fun q => fr_tape o ho rfl q)) (fun k j h1 h2 h3 => by rw [mr_ne h3]) ?_ ?_ ?_
                        · show mrow M (100 + o) _ 13 = _
                          rw [mr_ne (by omega), mr_ne (by decide), c13]
                        · show mrow M (100 + o) _ 14 = _
                          rw [mr_ne (by omega), mr_ne (by decide), c14]
                        · intro u v hu hv
                          rw [mr_eq]
                          show mrow M (100 + o) (fun q => if j' ≤ q ∧ q < j' + k then M (100 + t) (i' + (q - j')) else M (100 + o) q) (100 + u) v = if 60 * o + j' ≤ 60 * u + v ∧ 60 * u + v < 60 * o + j' + k then σ 49 (60 * t + i' + (60 * u + v - (60 * o + j'))) else σ 49 (60 * u + v)
                          by_cases e : u = o
                          · subst e
                            rw [mr_eq]
                            show (if j' ≤ v ∧ v < j' + k then M (100 + t) (i' + (v - j')) else M (100 + u) v) = _
                            by_cases e2 : j' ≤ v ∧ v < j' + k
                            · have := cit t (i' + (v - j')) ht (by omega)
                              rw [rw6_M M ht] at this
                              rw [ifp e2, ifp (by omega), this, show 60 * t + (i' + (v - j')) = 60 * t + i' + (60 * u + v - (60 * u + j')) by omega]
                            · have := cit u v hu hv
                              rw [rw6_M M hu] at this
                              rw [ifn e2, ifn (by omega), this]
                          · have := cit u v hu hv
                            rw [rw6_M M hu] at this
                            rw [mr_ne (by omega), ifn (by omega), this]
                    · rw [ifn d5, ifn (show ¬ (0 ≤ j ∧ 0 ≤ c ∧ j ≤ σ 48 o - c) by omega), n0]; exact Sim.same hJ0 _
                  · rw [ifp (show σ 48 t - c < i by omega), ifn (show ¬ (0 ≤ i ∧ 0 ≤ c ∧ i ≤ σ 48 t - c) by omega), i0]; exact Sim.same hJ0 _
          · rw [ifn c5, ifn c5]; exact Sim.same hJ0 _
    · simp only [ifp c1, ifn c2, i1, n0]; exact Sim.same hJ0 _
  · simp only [ifn c1, i0]; exact Sim.same hJ0 _
theorem bit2 {a b : Nat} (ha : a < 32) (hb : b < 32) (x y : Int) : ian (ian (isr x a) (isr y b)) 1 = if (bI x a && bI y b) = true then 1 else 0 := by
  apply bI_ext (ir_an _ _)
  · split <;> (unfold inR; decide)
  · intro h hh
    rw [bI_and, bI_1, bI_and]
    by_cases e : h = 0
    · subst e
      rw [bI_sr ha x (by omega), bI_sr hb y (by omega)]
      simp
      cases h1 : bI x a <;> cases h2 : bI y b <;> simp [bI_0, bI_1]
    · simp [e]
      cases h1 : bI x a <;> cases h2 : bI y b <;> simp [bI_0, bI_1, e]
theorem q_motion {M N : Mm} (n : Nat) (x y : Int) (hx : inR x) (hy : inR y) (hJ : J M N) : Sim (f_W_motion n x y M) (f_m_motion n x y N) := by
  have hJ0 := hJ
  obtain ⟨σ, hI, hA, hC⟩ := hJ
  have a1 : N 0 1 = σ 0 1 := hA 0 1 rfl
  have a63 : N 0 63 = σ 0 63 := hA 0 63 rfl
  have bh := hI.1.2.1
  have bm := hI.2.2.2.1.1
  have m11 := hC.1.2.1
  obtain ⟨m08, mY, mN⟩ := hC.2.2.2.1
  unfold f_W_motion f_m_motion
  rw [e_R_isSet n M x hx (by rw [m11]; exact bh), bnd_mk, e_R_isSet n M y hy (by rw [m11]; exact bh), bnd_mk, in_set n N x (by rw [a1]; exact bh), bnd_mk, in_set n N y (by rw [a1]; exact bh), bnd_mk, m11, a1]
  by_cases c : 0 ≤ x ∧ x < (2 : Int) ^ (σ 0 1).toNat
  · by_cases c2 : 0 ≤ y ∧ y < (2 : Int) ^ (σ 0 1).toNat
    · simp only [ifp c, ifp c2, i1, mg_k _ _ _ (show (0 : Nat) ≠ 11 by decide), mg_k _ _ _ (show (0 : Nat) ≠ 12 by decide), mg_k _ _ _ (show (0 : Nat) ≠ 40 by decide), mg_k _ _ _ (show (0 : Nat) ≠ 41 by decide), m08, a63]
      by_cases c3 : ian x y = 0
      · rw [ifp c3, ifp c3]
        by_cases c4 : σ 0 63 < 30
        · rw [ifp c4, ifp (show σ 0 63 ≠ 30 by omega)]
          simp only [ckp (show 0 ≤ σ 0 63 ∧ σ 0 63 < 30 by omega), mg_s]
          rw [w32_s (x := σ 0 63 + 1) (by omega) (by omega)]
          obtain ⟨h1, h2, h3, h4, h5⟩ := hI
          obtain ⟨k1, k2, k3, k4, k5, k6⟩ := hC
          refine Sim.mk (r := w32 (σ 0 63 + 1 - 1)) rfl rfl ⟨mset (mset (mset σ 40 (σ 0 63).toNat x) 41 (σ 0 63).toNat y) 0 63 (σ 0 63 + 1), ⟨h1, h2, h3, ⟨⟨?_, ?_⟩, ?_⟩, h5⟩, ((hA.set 40 _ _).set 41 _ _).set 0 63 _, k1, k2, k3, ⟨rfl, ?_, ?_⟩, k5, k6⟩
          · show 0 ≤ σ 0 63 + 1; omega
          · show σ 0 63 + 1 ≤ 30; omega
          · intro m hm
            replace hm : (m : Int) < σ 0 63 + 1 := hm
            show (inR (mset σ 40 (σ 0 63).toNat x 40 m) ∧ inR (mset σ 41 (σ 0 63).toNat y 41 m)) ∧ (∀ h : Nat, (bI (mset σ 40 (σ 0 63).toNat x 40 m) h && bI (mset σ 41 (σ 0 63).toNat y 41 m) h) = false) ∧ (∀ h : Nat, σ 0 1 ≤ (h : Int) → bI (mset σ 40 (σ 0 63).toNat x 40 m) h = false ∧ bI (mset σ 41 (σ 0 63).toNat y 41 m) h = false)
            by_cases e : m = (σ 0 63).toNat
            · subst e
              rw [mg_s, mg_s]
              refine ⟨⟨hx, hy⟩, fun h => ?_, fun h hh => ⟨bI_hi c.1 c.2 (by omega), bI_hi c2.1 c2.2 (by omega)⟩⟩
              rw [← bI_and, c3, bI_0]
            · rw [mg_j _ _ _ e, mg_j _ _ _ e]
              exact h4.2 m (by omega)
          · show mset M 11 (σ 0 63).toNat x 11 = mset σ 40 (σ 0 63).toNat x 40
            rw [ms_row, ms_row, mY]
          · show mset M 12 (σ 0 63).toNat y 12 = mset σ 41 (σ 0 63).toNat y 41
            rw [ms_row, ms_row, mN]
        · rw [ifn c4, ifn (show ¬ σ 0 63 ≠ 30 by omega)]; exact Sim.same hJ0 _
      · rw [ifn c3, ifn c3]; exact Sim.same hJ0 _
    · simp only [ifp c, ifn c2, i1, i0]; exact Sim.same hJ0 _
  · simp only [ifn c, i0]; exact Sim.same hJ0 _
/-- in how many motions two said the same; not the same -/
def tA (σ : Mm) (a b : Nat) : Nat → Int := fun m => if (bI (σ 40 m) a && bI (σ 40 m) b || bI (σ 41 m) a && bI (σ 41 m) b) = true then 1 else 0
def tP (σ : Mm) (a b : Nat) : Nat → Int := fun m => if (bI (σ 40 m) a && bI (σ 41 m) b || bI (σ 41 m) a && bI (σ 40 m) b) = true then 1 else 0
theorem tA_b (σ : Mm) (a b m : Nat) : 0 ≤ tA σ a b m ∧ tA σ a b m ≤ 1 := by unfold tA; split <;> omega
theorem tP_b (σ : Mm) (a b m : Nat) : 0 ≤ tP σ a b m ∧ tP σ a b m ≤ 1 := by unfold tP; split <;> omega
def tms (σ : Mm) (a b : Nat) : Int := sm (σ 0 63).toNat (tA σ a b)
def tmp (σ : Mm) (a b : Nat) : Int := sm (σ 0 63).toNat (tP σ a b)
theorem e_W_timesAlike {M σ : Mm} (n : Nat) (hn : 200 ≤ n) (hI : Inv σ) (hC : RelC M σ) {a b : Nat} (ha : a < 16) (hb : b < 16) : f_W_timesAlike n a b M = some (tms σ a b, M) := by
  obtain ⟨m08, mY, mN⟩ := hC.2.2.2.1
  have hm := hI.2.2.2.1
  have go : ∀ (r i f : Nat), i + r = (σ 0 63).toNat → r < f → lp_W_timesAlike_5 n f a b (sm i (tA σ a b)) i M = some (tms σ a b, M) := by
    intro r
    induction r with
    | zero =>
      intro i f hi hf
      obtain ⟨f', rfl, hf'⟩ := f_pos hf
      show f_W_timesAlike_5 n (lp_W_timesAlike_5 n f') a b _ i M = _
      unfold f_W_timesAlike_5 tms
      rw [ifp (by rw [m08]; omega), show i = (σ 0 63).toNat by omega]
    | succ r ih =>
      intro i f hi hf
      obtain ⟨f', rfl, hf'⟩ := f_pos hf
      show f_W_timesAlike_5 n (lp_W_timesAlike_5 n f') a b _ i M = _
      have h30 := hm.1
      have hmi := hm.2 i (by omega)
      have b1 := sm_nn (g := tA σ a b) (k := i) (fun j _ => (tA_b σ a b j).1)
      have b2 := sm_ub (g := tA σ a b) (k := i) (B := 1) (fun j _ => (tA_b σ a b j).2)
      unfold f_W_timesAlike_5
      simp only [ckp (show (0 : Int) ≤ (i : Int) ∧ (i : Int) < 30 by omega), Int.toNat_natCast, mY, mN, bit2 (show a < 32 by omega) (show b < 32 by omega)]
      rw [ifn (by rw [m08]; omega)]
      have e : (if (bI (σ 40 i) a && bI (σ 40 i) b) = true then (1 : Int) else 0) + (if (bI (σ 41 i) a && bI (σ 41 i) b) = true then 1 else 0) = tA σ a b i := by
        have d1 := hmi.2.1 a
        unfold tA
        cases h1 : bI (σ 40 i) a <;> cases h2 : bI (σ 40 i) b <;> cases h3 : bI (σ 41 i) a <;> cases h4 : bI (σ 41 i) b <;> simp_all
      have e2 : 0 ≤ (if (bI (σ 40 i) a && bI (σ 40 i) b) = true then (1 : Int) else 0) ∧ (if (bI (σ 40 i) a && bI (σ 40 i) b) = true then (1 : Int) else 0) ≤ 1 := by split <;> omega
      have e3 := tA_b σ a b i
      rw [w32_s (x := sm i (tA σ a b) + _) (by omega) (by omega), Int.add_assoc, e, w32_s (by omega) (by omega), w_succ (by omega)]
      exact ih (i + 1) f' (by omega) hf'
  exact go (σ 0 63).toNat 0 n (by omega) (by have := hm.1; omega)
theorem e_W_timesApart {M σ : Mm} (n : Nat) (hn : 200 ≤ n) (hI : Inv σ) (hC : RelC M σ) {a b : Nat} (ha : a < 16) (hb : b < 16) : f_W_timesApart n a b M = some (tmp σ a b, M) := by
  obtain ⟨m08, mY, mN⟩ := hC.2.2.2.1
  have hm := hI.2.2.2.1
  have go : ∀ (r i f : Nat), i + r = (σ 0 63).toNat → r < f → lp_W_timesApart_5 n f a b (sm i (tP σ a b)) i M = some (tmp σ a b, M) := by
    intro r
    induction r with
    | zero =>
      intro i f hi hf
      obtain ⟨f', rfl, hf'⟩ := f_pos hf
      show f_W_timesApart_5 n (lp_W_timesApart_5 n f') a b _ i M = _
      unfold f_W_timesApart_5 tmp
      rw [ifp (by rw [m08]; omega), show i = (σ 0 63).toNat by omega]
    | succ r ih =>
      intro i f hi hf
      obtain ⟨f', rfl, hf'⟩ := f_pos hf
      show f_W_timesApart_5 n (lp_W_timesApart_5 n f') a b _ i M = _
      have h30 := hm.1
      have hmi := hm.2 i (by omega)
      have b1 := sm_nn (g := tP σ a b) (k := i) (fun j _ => (tP_b σ a b j).1)
      have b2 := sm_ub (g := tP σ a b) (k := i) (B := 1) (fun j _ => (tP_b σ a b j).2)
      unfold f_W_timesApart_5
      simp only [ckp (show (0 : Int) ≤ (i : Int) ∧ (i : Int) < 30 by omega), Int.toNat_natCast, mY, mN, bit2 (show a < 32 by omega) (show b < 32 by omega)]
      rw [ifn (by rw [m08]; omega)]
      have e : (if (bI (σ 40 i) a && bI (σ 41 i) b) = true then (1 : Int) else 0) + (if (bI (σ 41 i) a && bI (σ 40 i) b) = true then 1 else 0) = tP σ a b i := by
        have d1 := hmi.2.1 a
        unfold tP
        cases h1 : bI (σ 40 i) a <;> cases h2 : bI (σ 40 i) b <;> cases h3 : bI (σ 41 i) a <;> cases h4 : bI (σ 41 i) b <;> simp_all
      have e2 : 0 ≤ (if (bI (σ 40 i) a && bI (σ 41 i) b) = true then (1 : Int) else 0) ∧ (if (bI (σ 40 i) a && bI (σ 41 i) b) = true then (1 : Int) else 0) ≤ 1 := by split <;> omega
      have e3 := tP_b σ a b i
      rw [w32_s (x := sm i (tP σ a b) + _) (by omega) (by omega), Int.add_assoc, e, w32_s (by omega) (by omega), w_succ (by omega)]
      exact ih (i + 1) f' (by omega) hf'
  exact go (σ 0 63).toNat 0 n (by omega) (by have := hm.1; omega)
theorem e_m_times {N σ : Mm} (n : Nat) (hn : 200 ≤ n) (hI : Inv σ) (hA : AgR N σ) {a b : Nat} (ha : a < 16) (hb : b < 16) (q : Int) (hq : q = 0 ∨ q = 1) : f_m_times n a b q N = some (if q = 1 then tms σ a b else tmp σ a b, N) := by
  have a63 : N 0 63 = σ 0 63 := hA 0 63 rfl
  have aY : N 40 = σ 40 := hA.row fun _ => rfl
  have aN : N 41 = σ 41 := hA.row fun _ => rfl
  have hm := hI.2.2.2.1
  have hg : ∃ g : Nat → Int, g = (if q = 1 then tA σ a b else tP σ a b) ∧ ∀ j, 0 ≤ g j ∧ g j ≤ 1 := by
    refine ⟨_, rfl, fun j => ?_⟩
    by_cases c : q = 1
    · rw [ifp c]; exact tA_b σ a b j
    · rw [ifn c]; exact tP_b σ a b j
  obtain ⟨g, hg1, hg2⟩ := hg
  have go : ∀ (r i f : Nat), i + r = (σ 0 63).toNat → r < f → lp_m_times_6 n f a b q (sm i g) i N = some (sm (σ 0 63).toNat g, N) := by
    intro r
    induction r with
    | zero =>
      intro i f hi hf
      obtain ⟨f', rfl, hf'⟩ := f_pos hf
      show f_m_times_6 n (lp_m_times_6 n f') a b q _ i N = _
      unfold f_m_times_6
      rw [ifp (by rw [a63]; omega), show i = (σ 0 63).toNat by omega]
    | succ r ih =>
      intro i f hi hf
      obtain ⟨f', rfl, hf'⟩ := f_pos hf
      show f_m_times_6 n (lp_m_times_6 n f') a b q _ i N = _
      have h30 := hm.1
      have hmi := hm.2 i (by omega)
      have b1 := sm_nn (g := g) (k := i) (fun j _ => (hg2 j).1)
      have b2 := sm_ub (g := g) (k := i) (B := 1) (fun j _ => (hg2 j).2)
      have b3 := hg2 i
      have e0 : sm (i + 1) g = sm i g + g i := rfl
      have I := ih (i + 1) f' (by omega) hf'
      rw [e0] at I
      unfold f_m_times_6 f_m_times_81 f_m_times_89
      simp only [ckp (show (0 : Int) ≤ (i : Int) ∧ (i : Int) < 30 by omega), Int.toNat_natCast, aY, aN, bit_I (show a < 32 by omega), bit_I (show b < 32 by omega)]
      rw [ifn (by rw [a63]; omega), w_succ (by omega)]
      have d1 := hmi.2.1 a
      have d2 := hmi.2.1 b
      have w0 : w32 0 = 0 := by decide
      have w1 : w32 1 = 1 := by decide
      have wm : w32 (-1) = -1 := by decide
      rcases hq with rfl | rfl
      · rw [ifp rfl]
        have hgi : g i = tP σ a b i := by rw [hg1]; rfl
        rw [hgi] at I b3
        unfold tP at I b3
        cases h1 : bI (σ 40 i) a <;> cases h2 : bI (σ 40 i) b <;> cases h3 : bI (σ 41 i) a <;> cases h4 : bI (σ 41 i) b <;> simp_all <;> rw [w32_s (by omega) (by omega)] <;> exact I
      · rw [ifn (show ¬ (1 : Int) = 0 by decide)]
        have hgi : g i = tA σ a b i := by rw [hg1]; rfl
        rw [hgi] at I b3
        unfold tA at I b3
        cases h1 : bI (σ 40 i) a <;> cases h2 : bI (σ 40 i) b <;> cases h3 : bI (σ 41 i) a <;> cases h4 : bI (σ 41 i) b <;> simp_all <;> rw [w32_s (by omega) (by omega)] <;> exact I
  have h := go (σ 0 63).toNat 0 n (by omega) (by have := hm.1; omega)
  unfold f_m_times tms tmp
  rw [show (sm 0 g) = 0 from rfl] at h
  refine h.trans ?_
  rw [hg1]
  by_cases c : q = 1
  · rw [ifp c, ifp c]
  · rw [ifn c, ifn c]
theorem q_alike {M N : Mm} (n : Nat) (hn : 200 ≤ n) (a b w : Int) (hJ : J M N) : Sim (f_W_alike n a b w M) (f_m_alike n a b w N) := by
  have hJ0 := hJ
  obtain ⟨σ, hI, hA, hC⟩ := hJ
  have a1 : N 0 1 = σ 0 1 := hA 0 1 rfl
  have bh := hI.1.2.1
  have m11 := hC.1.2.1
  unfold f_W_alike f_m_alike f_m_alike_50
  simp only [e_R_isHolder, e_m_isHolder n N _ (show 0 ≤ N 0 1 ∧ N 0 1 ≤ 16 by rw [a1]; exact bh), bnd_mk, e_m_in, a1, m11]
  by_cases c : 0 ≤ a ∧ a < σ 0 1
  · obtain ⟨x, rfl⟩ := nat_of c.1
    by_cases c2 : 0 ≤ b ∧ b < σ 0 1
    · obtain ⟨y, rfl⟩ := nat_of c2.1
      by_cases c3 : 0 ≤ w ∧ w ≤ 1
      · simp only [ifp c, ifp c2, ifp c3, i1, n1, ifn (show ¬ w < 0 by omega), ifp c3.2]
        by_cases c4 : (x : Int) = y
        · rw [ifn (by simpa using c4), ifn (by simpa using c4)]; exact Sim.same hJ0 _
        · rw [ifp c4, ifp c4, e_W_timesApart n hn hI hC (by omega) (by omega), e_W_timesAlike n hn hI hC (by omega) (by omega), e_m_times n hn hI hA (by omega) (by omega) 0 (Or.inl rfl), e_m_times n hn hI hA (by omega) (by omega) 1 (Or.inr rfl)]
          by_cases c5 : w = 0
          · rw [ifn (by simpa using c5), ifn (by simpa using c5)]; exact Sim.same hJ0 _
          · rw [ifp c5, ifp c5]; exact Sim.same hJ0 _
      · simp only [ifp c, ifp c2, ifn c3, i1, n0]
        by_cases c4 : w < 0
        · rw [ifp c4]; exact Sim.same hJ0 _
        · rw [ifn c4, ifn (show ¬ w ≤ 1 by omega)]; exact Sim.same hJ0 _
    · simp only [ifp c, ifn c2, i1, i0]; exact Sim.same hJ0 _
  · simp only [ifn c, i0]; exact Sim.same hJ0 _
theorem q_trace {M N : Mm} (n : Nat) (i : Int) (hJ : J M N) : Sim (f_W_trace n i M) (f_m_trace n i N) := by
  have hJ0 := hJ
  obtain ⟨σ, hI, hA, hC⟩ := hJ
  have a71 : N 0 71 = σ 0 71 := hA 0 71 rfl
  have a46 : N 46 = σ 46 := hA.row fun _ => rfl
  obtain ⟨t1, t2, t3⟩ := hC.2.2.2.2.2
  unfold f_W_trace f_m_trace f_W_trace_30 f_m_trace_28
  rw [e_m_in, bnd_mk, a71, a46, show M 10 (20 : Int).toNat = σ 0 71 from t2]
  by_cases c : 0 ≤ i ∧ i ≤ 19
  · rw [ifp c, i1, ifn (show ¬ i < 0 by omega), ifn (show ¬ 20 ≤ i by omega)]
    by_cases c2 : σ 0 71 ≤ i
    · rw [ifp c2, ifp c2]; exact Sim.same hJ0 _
    · rw [ifn c2, ifn c2, ckp (by omega), ckp (by omega), t3 i.toNat (by omega) (by omega)]; exact Sim.same hJ0 _
  · rw [ifn c, i0]
    by_cases c2 : i < 0
    · rw [ifp c2]; exact Sim.same hJ0 _
    · rw [ifn c2, ifp (show 20 ≤ i by omega)]; exact Sim.same hJ0 _
theorem w8_in (x : Int) : -128 ≤ w8 x ∧ w8 x ≤ 127 := by
  have h : w8 x = (Int32.ofInt x).toInt8.toInt := by
    unfold w8
    rw [Int8.toInt_toInt32]
  rw [h]
  have h1 := (Int32.ofInt x).toInt8.toInt_lt
  have h2 := (Int32.ofInt x).toInt8.le_toInt
  omega
theorem w8_w8 (x : Int) : w8 (w8 x) = w8 x := by
  unfold w8
  rw [Int32.ofInt_toInt]
  simp
/-- what is read depends on the bytes of the text alone -/
theorem sNum_c {t t' : Nat → Int} {m : Nat} (h : nx t m = nx t' m) (ab : Bool) (p : Nat) : sNum t m ab p = sNum t' m ab p := by unfold sNum; rw [h]
theorem sWord_c {t t' : Nat → Int} {m : Nat} (h : nx t m = nx t' m) : ∀ (l : List Int) (p : Nat), sWord t m l p = sWord t' m l p
  | [], _ => rfl
  | c :: l, p => by
    unfold sWord
    rw [h, sWord_c h l (p + 1)]
theorem sTest_c {t t' : Nat → Int} {m : Nat} (h : nx t m = nx t' m) (p : Nat) : sTest t m p = sTest t' m p := by unfold sTest; rw [h, sNum_c h]
theorem sE_0 (t : Nat → Int) (m f d p : Nat) : sE t m (f + 1) 0 d p = match sE t m f 1 d p with
    | (q, none) => (q, none)
    | (q, some c) => match sE t m f 3 d q with
      | (q', none) => (q', none)
      | (q', some c') => (q', some (c ++ c')) := rfl
theorem sE_1 (t : Nat → Int) (m f d p : Nat) : sE t m (f + 1) 1 d p = match sE t m f 2 d p with
    | (q, none) => (q, none)
    | (q, some c) => match sE t m f 4 d q with
      | (q', none) => (q', none)
      | (q', some c') => (q', some (c ++ c')) := rfl
theorem sE_3 (t : Nat → Int) (m f d p : Nat) : sE t m (f + 1) 3 d p = if nx t m p = 124 then
      match sE t m f 1 d (p + 1) with
      | (q, none) => (q, none)
      | (q, some c) => match sE t m f 3 d q with
        | (q', none) => (q', none)
        | (q', some c') => (q', some (c ++ (-2) :: c'))
    else (p, some []) := rfl
theorem sE_4 (t : Nat → Int) (m f d p : Nat) : sE t m (f + 1) 4 d p = if nx t m p = 38 then
      match sE t m f 2 d (p + 1) with
      | (q, none) => (q, none)
      | (q, some c) => match sE t m f 4 d q with
        | (q', none) => (q', none)
        | (q', some c') => (q', some (c ++ (-1) :: c'))
    else (p, some []) := rfl
theorem sE_2 (t : Nat → Int) (m f d p : Nat) : sE t m (f + 1) 2 d p = 
    if d < 4 ∧ nx t m p = 33 then
      match sE t m f 2 (d + 1) (p + 1) with
      | (q, none) => (q, none)
      | (q, some c) => (q, some (c ++ [-3]))
    else if d < 4 ∧ nx t m p = 40 then
      match sE t m f 0 (d + 1) (p + 1) with
      | (q, none) => (q, none)
      | (q, some c) => if nx t m q = 41 then (q + 1, some c) else (q, none)
    else sTest t m p := rfl
theorem sE_c {t t' : Nat → Int} {m : Nat} (h : nx t m = nx t' m) : ∀ (f k d p : Nat), k ≤ 4 → sE t m f k d p = sE t' m f k d p := by
  intro f
  induction f with
  | zero => intro k d p hk; rfl
  | succ f ih =>
    intro k d p hk
    have hk2 : k = 0 ∨ k = 1 ∨ k = 2 ∨ k = 3 ∨ k = 4 := by omega
    rcases hk2 with rfl | rfl | rfl | rfl | rfl
    · rw [sE_0, sE_0, ih 1 d p (by decide)]
      simp only [fun q => ih 3 d q (by decide)]
    · rw [sE_1, sE_1, ih 2 d p (by decide)]
      simp only [fun q => ih 4 d q (by decide)]
    · rw [sE_2, sE_2, h, ih 2 (d + 1) (p + 1) (by decide), ih 0 (d + 1) (p + 1) (by decide), sTest_c h p]
    · rw [sE_3, sE_3, h, ih 1 d (p + 1) (by decide)]
      simp only [fun q => ih 3 d q (by decide)]
    · rw [sE_4, sE_4, h, ih 2 d (p + 1) (by decide)]
      simp only [fun q => ih 4 d q (by decide)]
theorem sRest_c {t t' : Nat → Int} {m : Nat} (h : nx t m = nx t' m) (w q : Nat) : sRest t m w q = sRest t' m w q := by
  unfold sRest
  rw [sE_c h 1000 0 0 q (by decide), sNum_c h false q, h]
  simp only [sNum_c h]
theorem sClause_c {t t' : Nat → Int} {m : Nat} (h : nx t m = nx t' m) (p : Nat) : sClause t m p = sClause t' m p := by
  unfold sClause
  rw [h, sWord_c h]
  simp only [sRest_c h]
theorem sGo_c {t t' : Nat → Int} {m : Nat} (h : nx t m = nx t' m) : ∀ (k p : Nat), sGo t m k p = sGo t' m k p
  | 0, _ => rfl
  | k + 1, p => by
    unfold sGo
    rw [sClause_c h p, h]
    simp only [sGo_c h k]
theorem q_feed {M N : Mm} (n : Nat) (hn : 200 ≤ n) (x k : Int) (hJ : J M N) : Sim (f_W_feed n x k M) (f_m_feed n x k N) := by
  have hJ0 := hJ
  obtain ⟨σ, hI, hA, hC⟩ := hJ
  have a19 : N 0 19 = σ 0 19 := hA 0 19 rfl
  have c21 : M 2 1 = σ 0 19 := hC.2.2.1.2.1
  have bf := hI.2.2.1.2.1
  unfold f_W_feed f_m_feed
  rw [e_m_in, bnd_mk, a19, c21]
  by_cases c : 0 ≤ k ∧ k ≤ 4
  · rw [ifp c, n1, ifn (show ¬ k < 0 by omega), ifp c.2, w32_s (x := σ 0 19 + k) (by omega) (by omega), w32_s (x := k - 1) (by omega) (by omega)]
    by_cases c2 : σ 0 19 + k ≤ 100
    · rw [ifp c2, ifp c2]
      have go : ∀ (r f f' : Nat) (M N : Mm), r ≤ 4 → r < f → r < f' → J M N → M 2 1 + r ≤ 100 → Sim (lp_W_feed_33 n f x (r - 1) M) (lp_m_feed_31 n f' x (r - 1) N) := by
        intro r
        induction r with
        | zero =>
          intro f f' M N h4 hf hf' hJ hb
          obtain ⟨g, rfl, hg⟩ := f_pos hf
          obtain ⟨g', rfl, hg'⟩ := f_pos hf'
          show Sim (f_W_feed_33 n (lp_W_feed_33 n g) x _ M) (f_m_feed_31 n (lp_m_feed_31 n g') x _ N)
          unfold f_W_feed_33 f_m_feed_31
          rw [ifp (by decide), ifp (by decide)]
          have hJ1 := hJ
          obtain ⟨σ, hI, hA, hC⟩ := hJ
          rw [show M 2 1 = σ 0 19 from hC.2.2.1.2.1, show N 0 19 = σ 0 19 from hA 0 19 rfl]
          exact Sim.same hJ1 _
        | succ r ih =>
          intro f f' M N h4 hf hf' hJ hb
          obtain ⟨g, rfl, hg⟩ := f_pos hf
          obtain ⟨g', rfl, hg'⟩ := f_pos hf'
          show Sim (f_W_feed_33 n (lp_W_feed_33 n g) x _ M) (f_m_feed_31 n (lp_m_feed_31 n g') x _ N)
          obtain ⟨σ, hI, hA, hC⟩ := hJ
          have a19 : N 0 19 = σ 0 19 := hA 0 19 rfl
          have c21 : M 2 1 = σ 0 19 := hC.2.2.1.2.1
          have bf := hI.2.2.1.2.1
          rw [c21] at hb
          unfold f_W_feed_33 f_m_feed_31 f_C_append
          simp only [ifn (show ¬ (((r + 1 : Nat) : Int) - 1 < 0) by omega)]
          rw [c21, ifn (show ¬ 100 ≤ σ 0 19 by omega), ckp (by omega), bnd_mk, a19, w32_s (x := 2000 + σ 0 19) (by omega) (by omega), ckp (by omega), mg_k _ _ _ (show (0 : Nat) ≠ 14 by decide), mg_k _ _ _ (show (2 : Nat) ≠ 30 by decide), a19, c21, w32_s (x := σ 0 19 + 1) (by omega) (by omega), w8_w8, show ((r + 1 : Nat) : Int) - 1 = (r : Int) by omega, w32_s (x := (r : Int) + -1) (by omega) (by omega), show (2000 + σ 0 19).toNat = 2000 + (σ 0 19).toNat by omega]
          obtain ⟨h1, h2, h3, h4', h5⟩ := hI
          obtain ⟨k1, k2, k3, k4, k5, k6⟩ := hC
          obtain ⟨p1, p2, p3, p4⟩ := h3
          obtain ⟨u1, u2, u3, u4, u5, u6⟩ := k3
          have htx : ∀ kk : Nat, (kk : Int) < σ 0 18 → ∀ jj, jj < 100 → mset σ 14 (2000 + (σ 0 19).toNat) (w8 (isr x (w32 (8 * (r : Int))))) 14 (100 * kk + jj) = σ 14 (100 * kk + jj) := fun kk hk jj hj => mg_j _ _ _ (by omega)
          have hgo : ∀ kk : Nat, (kk : Int) < σ 0 18 → ∀ p6, sGo (tx0 (mset σ 14 (2000 + (σ 0 19).toNat) (w8 (isr x (w32 (8 * (r : Int))))) 14) kk) (σ 15 kk).toNat 6 p6 = sGo (tx0 (σ 14) kk) (σ 15 kk).toNat 6 p6 := by
            intro kk hkk p6
            refine sGo_c ?_ 6 p6
            funext p
            unfold nx tx0
            by_cases e : p < (σ 15 kk).toNat
            · rw [ifp e, ifp e]
              exact htx kk hkk p (by have := (p4 kk hkk).2.1; omega)
            · rw [ifn e, ifn e]
          refine ih g g' _ _ (by omega) (by omega) (by omega) ⟨mset (mset σ 14 (2000 + (σ 0 19).toNat) (w8 (isr x (w32 (8 * (r : Int)))))) 0 19 (σ 0 19 + 1), ⟨h1, h2, ⟨p1, ⟨?_, ?_⟩, ?_, ?_⟩, h4', h5⟩, (hA.set 14 _ _).set 0 19 _, k1, k2, ⟨u1, rfl, u3, u4, ?_, ?_⟩, k4, k5, k6⟩ ?_
          · show 0 ≤ σ 0 19 + 1; omega
          · show σ 0 19 + 1 ≤ 100; omega
          · intro j
            show -128 ≤ mset σ 14 (2000 + (σ 0 19).toNat) (w8 (isr x (w32 (8 * (r : Int))))) 14 j ∧ mset σ 14 (2000 + (σ 0 19).toNat) (w8 (isr x (w32 (8 * (r : Int))))) 14 j ≤ 127
            rw [mg, ifp rfl]
            split
            · exact w8_in _
            · exact p3 j
          · intro kk hkk
            obtain ⟨e1, e2, q, l, e3⟩ := p4 kk hkk
            exact ⟨e1, e2, q, l, (hgo kk hkk 0).trans e3⟩
          · intro j hj
            replace hj : (j : Int) < σ 0 19 + 1 := hj
            show mset M 30 (σ 0 19).toNat (w8 (isr x (w32 (8 * (r : Int))))) 30 j = mset σ 14 (2000 + (σ 0 19).toNat) (w8 (isr x (w32 (8 * (r : Int))))) 14 (2000 + j)
            by_cases e : j = (σ 0 19).toNat
            · subst e; rw [mg_s, mg_s]
            · rw [mg_j _ _ _ e, mg_j _ _ _ (by omega)]
              exact u5 j (by omega)
          · intro kk hkk
            obtain ⟨q, l, e3, e4⟩ := u6 kk hkk
            exact ⟨q, l, (hgo kk hkk 0).trans e3, e4⟩
          · rw [mg_s]; omega
      have h := go k.toNat n n M N (by omega) (by omega) (by omega) hJ0 (by rw [c21]; omega)
      rw [show ((k.toNat : Nat) : Int) = k by omega] at h
      exact h
    · rw [ifn c2, ifn c2]; exact Sim.same hJ0 _
  · rw [ifn c, n0]
    by_cases c2 : k < 0
    · rw [ifp c2]; exact Sim.same hJ0 _
    · rw [ifn c2, ifn (show ¬ k ≤ 4 by omega)]; exact Sim.same hJ0 _
