/-! The reference reads a text: letters, words, numbers. -/
section
variable {t : Nat → Int} {m : Nat} {N : Mm}
/-- at p of the text t of m letters, laid from base on -/
def RDt (N : Mm) (t : Nat → Int) (m p : Nat) : Prop := ∃ b : Nat, (b ≤ 2000 ∧ m ≤ 100 ∧ p ≤ m) ∧ N 0 29 = (b : Int) ∧ N 0 30 = (m : Int) ∧ N 0 31 = (p : Int) ∧ (∀ j, j < m → N 14 (b + j) = t j) ∧ ∀ j, -128 ≤ t j ∧ t j ≤ 127
theorem nx_in (ht : ∀ j, -128 ≤ t j ∧ t j ≤ 127) (p : Nat) : -128 ≤ nx t m p ∧ nx t m p ≤ 127 := by
  unfold nx
  split
  · exact ht p
  · omega
theorem nx_lt {p : Nat} {x : Int} (h : nx t m p = x) (hx : x ≠ -1) : p < m := by
  unfold nx at h
  split at h
  · assumption
  · omega
theorem RDt.fr {N N' : Mm} {L : List Nat} {p : Nat} (h : RDt N t m p) (f : Fr cdR L N N') (h1 : L.elem 1029 = false) (h2 : L.elem 1030 = false) (h3 : L.elem 1031 = false) (h4 : L.elem 14 = false) : RDt N' t m p := by
  obtain ⟨b, h0, a1, a2, a3, a4, a5⟩ := h
  exact ⟨b, h0, (f 0 29 h1).trans a1, (f 0 30 h2).trans a2, (f 0 31 h3).trans a3, fun j hj => (f 14 _ h4).trans (a4 j hj), a5⟩
theorem RDt.adv {p q : Nat} (h : RDt N t m p) (hq : q ≤ m) : RDt (mset N 0 31 (q : Int)) t m q := by
  obtain ⟨b, h0, a1, a2, a3, a4, a5⟩ := h
  exact ⟨b, ⟨h0.1, h0.2.1, hq⟩, by rw [mg_j _ _ _ (by decide)]; exact a1, by rw [mg_j _ _ _ (by decide)]; exact a2, mg_s _ _ _ _, fun j hj => by rw [mg_k _ _ _ (by decide)]; exact a4 j hj, a5⟩
theorem e_m_next (n : Nat) {p : Nat} (h : RDt N t m p) : f_m_next n N = some (nx t m p, N) := by
  obtain ⟨b, h0, a1, a2, a3, a4, a5⟩ := h
  unfold f_m_next nx
  rw [a2, a3]
  by_cases c : p < m
  · rw [ifn (by omega), ifp c, a1, w32_s (by omega) (by omega), ckp (by omega), show ((b : Int) + (p : Int)).toNat = b + p by omega, a4 p c]
  · rw [ifp (by omega), ifn c]
theorem RDt.in {p : Nat} (h : RDt N t m p) : (m ≤ 100 ∧ p ≤ m) ∧ N 0 31 = (p : Int) ∧ ∀ j, -128 ≤ t j ∧ t j ≤ 127 := by
  obtain ⟨b, h0, a1, a2, a3, a4, a5⟩ := h
  exact ⟨h0.2, a3, a5⟩
theorem e_m_takes (n : Nat) {p : Nat} (h : RDt N t m p) {c : Int} (hc : c ≠ -1) : f_m_takes n c N = if nx t m p = c then some (1, mset N 0 31 ((p + 1 : Nat) : Int)) else some (0, N) := by
  unfold f_m_takes
  rw [e_m_next n h, bnd_mk, h.in.2.1, w_succ (by have := h.in.1; omega)]
theorem e_m_isDigit (n : Nat) {p : Nat} (h : RDt N t m p) : f_m_isDigit n N = some (if dg (nx t m p) = true then 1 else 0, N) := by
  unfold f_m_isDigit dg
  rw [e_m_next n h, bnd_mk, e_m_in, bnd_mk]
  by_cases c : 48 ≤ nx t m p ∧ nx t m p ≤ 57
  · rw [ifp c, ifp (decide_eq_true c)]
  · rw [ifn c, ifn (by simpa using c)]
theorem tk_m (n : Nat) (word : Int) : ∀ (l : List Int) (g p k : Nat) (N : Mm), RDt N t m p → l.length < g → k = l.length → k ≤ 5 → (∀ i, i < l.length → (l[i]?).getD 0 = w32 (96 + (ian (isr word (w32 (5 * (((k - 1 - i : Nat) : Int))))) 31)) ∧ (l[i]?).getD 0 ≠ -1) → ∃ N' q, lp_m_takesWord_4 n g word ((k : Int) - 1) N = some (if (sWord t m (l ++ [32]) p).2 = true then 1 else 0, N') ∧ q = (sWord t m (l ++ [32]) p).1 ∧ RDt N' t m q ∧ Fr cdR [1031] N N'
  | [], g, p, k, N, hR, hg, hk, _, _ => by
    obtain ⟨g', rfl, _⟩ := f_pos (show 0 < g by omega)
    have hk0 : k = 0 := hk
    subst hk0
    show ∃ N' q, f_m_takesWord_4 n (lp_m_takesWord_4 n g') word _ N = _ ∧ _
    unfold f_m_takesWord_4
    have hi := hR.in.1
    rw [ifp (show (((0 : Nat) : Int) - 1) < 0 by decide), e_m_takes n hR (by decide)]
    show ∃ N' q, bnd _ _ = some (if (if nx t m p = 32 then (p + 1, true) else (p, false)).2 = true then 1 else 0, N') ∧ q = (if nx t m p = 32 then (p + 1, true) else (p, false)).1 ∧ _
    by_cases c : nx t m p = 32
    · have := nx_lt c (by decide)
      rw [ifp c, ifp c]
      exact ⟨_, p + 1, rfl, rfl, hR.adv (by omega), Fr.rf.set rfl⟩
    · rw [ifn c, ifn c]
      exact ⟨N, p, rfl, rfl, hR, Fr.rf⟩
  | x :: l, g, p, k, N, hR, hg, hk, h5, hl => by
    have hlen : (x :: l).length = l.length + 1 := rfl
    obtain ⟨g', rfl, hg'⟩ := f_pos (show 0 < g by omega)
    have h0 := hl 0 (by omega)
    have hx : (((x :: l)[0]?).getD 0) = x := rfl
    rw [hx] at h0
    have hi := hR.in.1
    show ∃ N' q, f_m_takesWord_4 n (lp_m_takesWord_4 n g') word _ N = _ ∧ _
    unfold f_m_takesWord_4
    rw [ifn (show ¬ ((k : Int) - 1 < 0) by omega), show (k : Int) - 1 = ((k - 1 - 0 : Nat) : Int) by omega, ← h0.1, e_m_takes n hR h0.2]
    show ∃ N' q, bnd _ _ = some (if (if nx t m p = x then sWord t m (l ++ [32]) (p + 1) else (p, false)).2 = true then 1 else 0, N') ∧ q = (if nx t m p = x then sWord t m (l ++ [32]) (p + 1) else (p, false)).1 ∧ _
    by_cases c : nx t m p = x
    · have := nx_lt c h0.2
      rw [ifp c, ifp c, bnd_mk, ifp (show (1 : Int) ≠ 0 by decide), show ((k - 1 - 0 : Nat) : Int) + -1 = ((k - 1 : Nat) : Int) - 1 by omega, w32_s (by omega) (by omega)]
      obtain ⟨N', q, k1, k2, k3, k4⟩ := tk_m n word l g' (p + 1) (k - 1) (mset N 0 31 ((p + 1 : Nat) : Int)) (hR.adv (by omega)) (by omega) (by omega) (by omega) (fun i hi => by
        have := hl (i + 1) (by omega)
        rw [show k - 1 - (i + 1) = k - 1 - 1 - i by omega] at this
        exact this)
      exact ⟨N', q, k1, k2, k3, (Fr.rf.set (N1 := N) (k := 0) (j := 31) (v := ((p + 1 : Nat) : Int)) rfl).trans k4⟩
    · rw [ifn c, ifn c, bnd_mk, ifn (show ¬ (0 : Int) ≠ 0 by decide)]
      exact ⟨N, p, rfl, rfl, hR, Fr.rf⟩
def wdI (w : Nat) : Int := match w with
  | 0 => 464036
  | 1 => 441972
  | 2 => 15748
  | 3 => 245124
  | _ => 20321456
def wdL (w : Nat) : Int := match w with
  | 2 => 3
  | 4 => 5
  | _ => 4
theorem e_m_takesWord (n : Nat) (hn : 3000 ≤ n) {p : Nat} (hR : RDt N t m p) (w : Nat) (hw : w < 5) : ∃ N' q, f_m_takesWord n (wdI w) (wdL w) N = some (if (sWord t m (wLet w) p).2 = true then 1 else 0, N') ∧ q = (sWord t m (wLet w) p).1 ∧ RDt N' t m q ∧ Fr cdR [1031] N N' := by
  unfold f_m_takesWord
  match w, hw with
  | 0, _ => exact tk_m n 464036 [110, 101, 101, 100] n p 4 N hR (by show 4 < n; omega) rfl (by decide) (by decide)
  | 1, _ => exact tk_m n 441972 [109, 111, 115, 116] n p 4 N hR (by show 4 < n; omega) rfl (by decide) (by decide)
  | 2, _ => exact tk_m n 15748 [111, 108, 100] n p 3 N hR (by show 3 < n; omega) rfl (by decide) (by decide)
  | 3, _ => exact tk_m n 245124 [103, 111, 108, 100] n p 4 N hR (by show 4 < n; omega) rfl (by decide) (by decide)
  | 4, _ => exact tk_m n 20321456 [115, 108, 101, 101, 112] n p 5 N hR (by show 5 < n; omega) rfl (by decide) (by decide)
theorem dg_t {x : Int} : dg x = true ↔ 48 ≤ x ∧ x ≤ 57 := by unfold dg; exact decide_eq_true_iff
theorem dg_lt {p : Nat} (h : dg (nx t m p) = true) : p < m := by
  have h1 := dg_t.mp h
  exact nx_lt (x := nx t m p) rfl (by omega)
/-- one more digit -/
theorem tn_step (n g : Nat) {p k : Nat} {ab d : Int} (hR : RDt N t m p) (hk : k < 3) (hd : N 0 33 = d) (hd2 : 0 ≤ d ∧ d ≤ 99) (hD : dg (nx t m p) = true) (hs : ¬ (ab ≠ 0 ∧ k = 2 ∧ d = 0 ∧ nx t m p = 48)) : lp_m_takesNumber_16 n (g + 1) ab k N = lp_m_takesNumber_16 n g ab ((k + 1 : Nat) : Int) (mset (mset N 0 33 (10 * d + nx t m p - 48)) 0 31 ((p + 1 : Nat) : Int)) := by
  show f_m_takesNumber_16 n (lp_m_takesNumber_16 n g) ab k N = _
  have hdg := dg_t.mp hD
  have hi := hR.in.1
  have tail : f_m_takesNumber_55 n (lp_m_takesNumber_16 n g) ab k N = lp_m_takesNumber_16 n g ab ((k + 1 : Nat) : Int) (mset (mset N 0 33 (10 * d + nx t m p - 48)) 0 31 ((p + 1 : Nat) : Int)) := by
    unfold f_m_takesNumber_55
    rw [e_m_next n hR, bnd_mk, hd, w32_s (x := 10 * d) (by omega) (by omega), w32_s (x := 10 * d + nx t m p) (by omega) (by omega), w32_s (x := 10 * d + nx t m p - 48) (by omega) (by omega), mg_j _ _ _ (show (31 : Nat) ≠ 33 by decide), hR.in.2.1, w_succ (show p < 2000000000 by omega), w_succ (show k < 2000000000 by omega)]
  unfold f_m_takesNumber_16
  rw [ifn (by omega), e_m_isDigit n hR, bnd_mk, ifp hD, ifn (show ¬ (1 : Int) = 0 by decide), tail]
  by_cases c1 : ab = 0
  · rw [ifp c1]
  · rw [ifn c1]
    by_cases c2 : (k : Int) = 2
    · rw [ifn (fun z => z c2), hd]
      by_cases c3 : d = 0
      · rw [ifn (fun z => z c3), e_m_next n hR, bnd_mk, ifp (show nx t m p ≠ 48 from fun z => hs ⟨c1, by omega, c3, z⟩), tail]
      · rw [ifp c3]
    · rw [ifp c2]
theorem tn_end (n g : Nat) {p k : Nat} {ab d : Int} (hR : RDt N t m p) (hd : N 0 33 = d) (h : 3 ≤ k ∨ dg (nx t m p) = false) (hab : ab = 0 ∨ ab = 1) : lp_m_takesNumber_16 n (g + 1) ab k N = some (if ab = 1 ∧ d ≤ 0 then 0 else 1, N) := by
  have fin : f_m_takesNumber_90 n ab N = some (if ab = 1 ∧ d ≤ 0 then 0 else 1, N) := by
    unfold f_m_takesNumber_90
    rw [hd]
    rcases hab with q | q
    · rw [q, ifp rfl, ifn (fun z => by cases z.1)]
    · rw [q, ifn (show ¬ (1 : Int) = 0 by decide)]
      by_cases c : d ≤ 0
      · rw [ifp c, ifp ⟨rfl, c⟩]
      · rw [ifn c, ifn (fun z => c z.2)]
  show f_m_takesNumber_16 n (lp_m_takesNumber_16 n g) ab k N = _
  unfold f_m_takesNumber_16
  by_cases c : 3 ≤ (k : Int)
  · rw [ifp c, fin]
  · rw [ifn c, e_m_isDigit n hR, bnd_mk, ifn (show ¬ dg (nx t m p) = true by rcases h with q | q; exact absurd (by omega) c; rw [q]; decide), ifp rfl, fin]
theorem e_m_takesNumber (n : Nat) (hn : 3000 ≤ n) {p : Nat} (hR : RDt N t m p) (ab : Bool) : ∃ N' q, f_m_takesNumber n (if ab = true then 1 else 0) N = some (if (sNum t m ab p).2.isSome = true then 1 else 0, N') ∧ q = (sNum t m ab p).1 ∧ RDt N' t m q ∧ Fr cdR [1031, 1033] N N' ∧ ∀ v, (sNum t m ab p).2 = some v → N' 0 33 = v ∧ 0 ≤ v ∧ v ≤ 999 := by
  obtain ⟨g, rfl⟩ : ∃ g, n = g + 4 := ⟨n - 4, by omega⟩
  have habi : (if ab = true then (1 : Int) else 0) = 0 ∨ (if ab = true then (1 : Int) else 0) = 1 := by cases ab; exact Or.inl rfl; exact Or.inr rfl
  have adv : ∀ (N : Mm) (p : Nat) (d : Int), RDt N t m p → p < m → RDt (mset (mset N 0 33 d) 0 31 ((p + 1 : Nat) : Int)) t m (p + 1) := fun N p d h hp => (h.fr (Fr.rf.set (N1 := N) (k := 0) (j := 33) (v := d) (L := [1033]) rfl) rfl rfl rfl rfl).adv (by omega)
  have g33 : ∀ (N : Mm) (d : Int) (p : Nat), mset (mset N 0 33 d) 0 31 (p : Int) 0 33 = d := fun N d p => by rw [mg_j _ _ _ (by decide), mg_s]
  have frr : ∀ (N : Mm) (d : Int) (p : Nat), Fr cdR [1031, 1033] N (mset (mset N 0 33 d) 0 31 (p : Int)) := fun N d p => (Fr.rf.set rfl).set rfl
  unfold f_m_takesNumber sNum
  rw [e_m_isDigit _ hR, bnd_mk]
  by_cases c1 : dg (nx t m p) = true
  · rw [ifp c1, ifp c1, ifp (show (1 : Int) ≠ 0 by decide)]
    have d1 := dg_t.mp c1
    have l1 := dg_lt c1
    have fr0 : Fr cdR [1031, 1033] N (mset N 0 33 0) := Fr.rf.set rfl
    have hR0 : RDt (mset N 0 33 0) t m p := hR.fr (Fr.rf.set (N1 := N) (k := 0) (j := 33) (v := 0) (L := [1033]) rfl) rfl rfl rfl rfl
    have s1 := tn_step (g + 4) (g + 3) (k := 0) (ab := if ab = true then 1 else 0) (d := 0) hR0 (by decide) (mg_s _ _ _ _) (by decide) c1 (fun z => by have := z.2.1; omega)
    have s1' : lp_m_takesNumber_16 (g + 4) (g + 4) (if ab = true then 1 else 0) 0 (mset N 0 33 0) = _ := s1
    rw [s1']
    have hR1 := adv _ p (10 * 0 + nx t m p - 48) hR0 l1
    have fr1 := fr0.trans (frr (mset N 0 33 0) (10 * 0 + nx t m p - 48) (p + 1))
    have v1 := g33 (mset N 0 33 0) (10 * 0 + nx t m p - 48) (p + 1)
    generalize hN1 : mset (mset (mset N 0 33 0) 0 33 (10 * 0 + nx t m p - 48)) 0 31 ((p + 1 : Nat) : Int) = N1 at hR1 fr1 v1 ⊢
    by_cases c2 : dg (nx t m (p + 1)) = true
    · have d2 := dg_t.mp c2
      have l2 := dg_lt c2
      rw [ifp c2, tn_step (g + 4) (g + 2) (k := 0 + 1) (ab := if ab = true then 1 else 0) hR1 (by decide) v1 (by omega) c2 (fun z => by have := z.2.1; omega)]
      have hR2 := adv _ (p + 1) (10 * (10 * 0 + nx t m p - 48) + nx t m (p + 1) - 48) hR1 l2
      have fr2 := fr1.trans (frr N1 (10 * (10 * 0 + nx t m p - 48) + nx t m (p + 1) - 48) (p + 1 + 1))
      have v2 := g33 N1 (10 * (10 * 0 + nx t m p - 48) + nx t m (p + 1) - 48) (p + 1 + 1)
      generalize hN2 : mset (mset N1 0 33 (10 * (10 * 0 + nx t m p - 48) + nx t m (p + 1) - 48)) 0 31 ((p + 1 + 1 : Nat) : Int) = N2 at hR2 fr2 v2 ⊢
      by_cases c3 : dg (nx t m (p + 2)) = true
      · have d3 := dg_t.mp c3
        have l3 := dg_lt c3
        rw [ifp c3]
        by_cases c4 : ab = true ∧ 100 * (nx t m p - 48) + 10 * (nx t m (p + 1) - 48) + (nx t m (p + 2) - 48) = 0
        · rw [ifp (show (ab && decide (100 * (nx t m p - 48) + 10 * (nx t m (p + 1) - 48) + (nx t m (p + 2) - 48) = 0)) = true by rw [c4.1, decide_eq_true c4.2]; rfl)]
          refine ⟨N2, p + 2, ?_, rfl, hR2, fr2, fun v hv => by cases hv⟩
          show f_m_takesNumber_16 (g + 4) (lp_m_takesNumber_16 (g + 4) (g + 1)) _ ((0 + 1 + 1 : Nat) : Int) N2 = some (0, N2)
          unfold f_m_takesNumber_16
          rw [ifn (by decide), e_m_isDigit _ hR2, bnd_mk, ifp c3, ifn (show ¬ (1 : Int) = 0 by decide), ifp c4.1, ifn (show ¬ (1 : Int) = 0 by decide), ifn (show ¬ (((0 + 1 + 1 : Nat) : Int) ≠ 2) by decide), v2, ifn (show ¬ (10 * (10 * 0 + nx t m p - 48) + nx t m (p + 1) - 48 ≠ 0) by omega), e_m_next _ hR2, bnd_mk, ifn (show ¬ (nx t m (p + 2) ≠ 48) by omega)]
        · rw [ifn (show ¬ (ab && decide (100 * (nx t m p - 48) + 10 * (nx t m (p + 1) - 48) + (nx t m (p + 2) - 48) = 0)) = true from fun z => c4 (by rw [Bool.and_eq_true, decide_eq_true_eq] at z; exact z))]
          rw [tn_step (g + 4) (g + 1) (k := 0 + 1 + 1) (ab := if ab = true then 1 else 0) hR2 (by decide) v2 (by omega) c3 (fun z => by
            have za : ab = true := by cases ab; exact absurd rfl z.1; rfl
            have zb := z.2.2.1
            have zc := z.2.2.2
            exact c4 ⟨za, by have zc' : nx t m (p + 2) = 48 := zc; omega⟩)]
          have hR3 := adv _ (p + 1 + 1) (10 * (10 * (10 * 0 + nx t m p - 48) + nx t m (p + 1) - 48) + nx t m (p + 1 + 1) - 48) hR2 l3
          have fr3 := fr2.trans (frr N2 (10 * (10 * (10 * 0 + nx t m p - 48) + nx t m (p + 1) - 48) + nx t m (p + 1 + 1) - 48) (p + 1 + 1 + 1))
          have v3 := g33 N2 (10 * (10 * (10 * 0 + nx t m p - 48) + nx t m (p + 1) - 48) + nx t m (p + 1 + 1) - 48) (p + 1 + 1 + 1)
          have e3 : nx t m (p + 1 + 1) = nx t m (p + 2) := rfl
          rw [tn_end (g + 4) g hR3 v3 (Or.inl (by decide)) habi]
          refine ⟨_, p + 3, ?_, rfl, hR3, fr3, fun v hv => ?_⟩
          · rw [ifn (show ¬ ((if ab = true then (1 : Int) else 0) = 1 ∧ 10 * (10 * (10 * 0 + nx t m p - 48) + nx t m (p + 1) - 48) + nx t m (p + 1 + 1) - 48 ≤ 0) from fun z => c4 ⟨by cases ab; cases z.1; rfl, by omega⟩)]
            rfl
          · have hv' : 100 * (nx t m p - 48) + 10 * (nx t m (p + 1) - 48) + (nx t m (p + 2) - 48) = v := by cases hv; rfl
            rw [v3]
            omega
      · rw [ifn c3, tn_end (g + 4) (g + 1) hR2 v2 (Or.inr (by simpa using c3)) habi]
        by_cases c4 : ab = true ∧ 10 * (nx t m p - 48) + (nx t m (p + 1) - 48) = 0
        · rw [ifp (show (ab && decide (10 * (nx t m p - 48) + (nx t m (p + 1) - 48) = 0)) = true by rw [c4.1, decide_eq_true c4.2]; rfl)]
          refine ⟨N2, p + 2, ?_, rfl, hR2, fr2, fun v hv => by cases hv⟩
          rw [ifp (show (if ab = true then (1 : Int) else 0) = 1 ∧ 10 * (10 * 0 + nx t m p - 48) + nx t m (p + 1) - 48 ≤ 0 from ⟨by rw [c4.1]; rfl, by omega⟩)]
          rfl
        · rw [ifn (show ¬ (ab && decide (10 * (nx t m p - 48) + (nx t m (p + 1) - 48) = 0)) = true from fun z => c4 (by rw [Bool.and_eq_true, decide_eq_true_eq] at z; exact z))]
          refine ⟨N2, p + 2, ?_, rfl, hR2, fr2, fun v hv => ?_⟩
          · rw [ifn (show ¬ ((if ab = true then (1 : Int) else 0) = 1 ∧ 10 * (10 * 0 + nx t m p - 48) + nx t m (p + 1) - 48 ≤ 0) from fun z => c4 ⟨by cases ab; cases z.1; rfl, by omega⟩)]
            rfl
          · have hv' : 10 * (nx t m p - 48) + (nx t m (p + 1) - 48) = v := by cases hv; rfl
            rw [v2]
            omega
    · rw [ifn c2, tn_end (g + 4) (g + 2) hR1 v1 (Or.inr (by simpa using c2)) habi]
      by_cases c4 : ab = true ∧ nx t m p - 48 = 0
      · rw [ifp (show (ab && decide (nx t m p - 48 = 0)) = true by rw [c4.1, decide_eq_true c4.2]; rfl)]
        refine ⟨N1, p + 1, ?_, rfl, hR1, fr1, fun v hv => by cases hv⟩
        rw [ifp (show (if ab = true then (1 : Int) else 0) = 1 ∧ 10 * 0 + nx t m p - 48 ≤ 0 from ⟨by rw [c4.1]; rfl, by omega⟩)]
        rfl
      · rw [ifn (show ¬ (ab && decide (nx t m p - 48 = 0)) = true from fun z => c4 (by rw [Bool.and_eq_true, decide_eq_true_eq] at z; exact z))]
        refine ⟨N1, p + 1, ?_, rfl, hR1, fr1, fun v hv => ?_⟩
        · rw [ifn (show ¬ ((if ab = true then (1 : Int) else 0) = 1 ∧ 10 * 0 + nx t m p - 48 ≤ 0) from fun z => c4 ⟨by cases ab; cases z.1; rfl, by omega⟩)]
          rfl
        · have hv' : nx t m p - 48 = v := by cases hv; rfl
          rw [v1]
          omega
  · rw [ifn c1, ifn c1, ifn (show ¬ (0 : Int) ≠ 0 by decide)]
    exact ⟨N, p, rfl, rfl, hR, Fr.rf, fun v hv => by cases hv⟩
end
