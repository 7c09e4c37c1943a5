/-! The reference turns to a day; who carries. -/
section
variable {σ : Mm}
theorem kk_in (hI : Inv σ) (f : Int) (w : Nat) (d : Int) : -1 ≤ kk σ f w d ∧ kk σ f w d < 20 := by
  have b := hI.2.2.1.1
  have bi := bst_in σ f w d (σ 0 18).toNat
  have ed : kk σ f w d = bst σ f w d (σ 0 18).toNat := rfl
  rw [← ed] at bi
  omega
theorem gd_in (σ : Mm) (f d : Int) : gd σ f d = -5 ∨ (0 ≤ gd σ f d ∧ gd σ f d < σ 0 1) := by
  unfold gd
  split
  · right; assumption
  · left; rfl
theorem l_m_fvA {N : Mm} (n : Nat) (hn : 3000 ≤ n) (hI : Inv σ) (hA : AgR N σ) (d : Int) (k2 : Int → Int → Mm → Rr) (f : Nat) (hf : f < 16) : ∃ N1, bnd (f_m_ruled n f 0 d N) (fun r6 M6 => if r6 < 0 then f_m_findVotes_38 n k2 d f 0 M6 else f_m_findVotes_38 n k2 d f 1 M6) = f_m_findVotes_78 n k2 d f f (se σ f 0 d) (mset N1 26 f (fi σ f 0 d)) ∧ Fr cdR GOL N N1 := by
  obtain ⟨N1, g1, g2, g3⟩ := e_m_ruled n hn hI hA f (w := 0) (by decide) d
  rw [show ((0 : Nat) : Int) = 0 from rfl] at g1
  refine ⟨N1, ?_, g2⟩
  rw [g1, bnd_mk]
  unfold f_m_findVotes_38 f_m_findVotes_58
  simp only [ckp (show (0 : Int) ≤ (f : Int) ∧ (f : Int) < 16 by omega), Int.toNat_natCast, show (0 : Int).toNat = 0 from rfl, i0, i1, mg_k _ _ _ (show (19 : Nat) ≠ 26 by decide)]
  by_cases c : kk σ f 0 d < 0
  · rw [ifp c]
    have h1 : fi σ f 0 d = 1 := by unfold fi; rw [ifp c]; rfl
    have h2 : se σ f 0 d = 2 := by unfold se; rw [ifp c]; rfl
    rw [h1, h2]
    simp only [if_true]
  · rw [ifn c]
    have := g3 (by omega)
    rw [this.2.1 (by decide), this.2.2.1 (Or.inl rfl)]
theorem l_m_fvB {N : Mm} (n : Nat) (hn : 3000 ≤ n) (hI : Inv σ) (hA : AgR N σ) (d : Int) (k2 : Int → Int → Mm → Rr) (f : Nat) (hf : f < 16) : ∃ N1, bnd (f_m_ruled n f 1 d N) (fun r2 M2 => if r2 < 0 then f_m_findVotes_101 n k2 d f 999 M2 else f_m_findVotes_101 n k2 d f (M2 18 (1 : Int).toNat) M2) = f_m_findVotes_101 n k2 d f (fi σ f 1 d) N1 ∧ Fr cdR GOL N N1 := by
  obtain ⟨N1, g1, g2, g3⟩ := e_m_ruled n hn hI hA f (w := 1) (by decide) d
  rw [show ((1 : Nat) : Int) = 1 from rfl] at g1
  refine ⟨N1, ?_, g2⟩
  rw [g1, bnd_mk]
  by_cases c : kk σ f 1 d < 0
  · rw [ifp c]
    have h1 : fi σ f 1 d = 999 := by unfold fi; rw [ifp c]; rfl
    rw [h1]
  · rw [ifn c]
    have h1 := (g3 (by omega)).2.1 (by decide)
    rw [show (1 : Int).toNat = 1 from rfl, h1]
theorem l_m_fvC {N : Mm} (n : Nat) (hn : 3000 ≤ n) (hI : Inv σ) (hA : AgR N σ) (d : Int) (k2 : Int → Int → Mm → Rr) (f : Nat) (hf : f < 16) (x4 : Int) : ∃ N1, f_m_findVotes_101 n k2 d f x4 N = f_m_findVotes_154 n k2 d f x4 (fi σ f 2 d) (se σ f 2 d) N1 ∧ Fr cdR GOL N N1 := by
  obtain ⟨N1, g1, g2, g3⟩ := e_m_ruled n hn hI hA f (w := 2) (by decide) d
  rw [show ((2 : Nat) : Int) = 2 from rfl] at g1
  refine ⟨N1, ?_, g2⟩
  unfold f_m_findVotes_101
  rw [g1, bnd_mk]
  unfold f_m_findVotes_118 f_m_findVotes_137
  simp only [i0, i1]
  by_cases c : kk σ f 2 d < 0
  · rw [ifp c]
    have h1 : fi σ f 2 d = 999 := by unfold fi; rw [ifp c]; rfl
    have h2 : se σ f 2 d = 1 := by unfold se; rw [ifp c]; rfl
    rw [h1, h2]
    simp only [if_true]
  · rw [ifn c]
    have := g3 (by omega)
    rw [show (2 : Int).toNat = 2 from rfl, this.2.1 (by decide), this.2.2.1 (Or.inr rfl)]
theorem l_m_fvD {N : Mm} (n : Nat) (hn : 3000 ≤ n) (hI : Inv σ) (hA : AgR N σ) (d : Int) (k2 : Int → Int → Mm → Rr) (f : Nat) (hf : f < 16) (x4 x6 x7 : Int) : ∃ N1, f_m_findVotes_154 n k2 d f x4 x6 x7 N = f_m_findVotes_194 n k2 d f x4 x6 x7 f (if gd σ f d < 0 then -1 else gd σ f d) N1 ∧ Fr cdR GOL N N1 := by
  have b := hI.1.2.1
  obtain ⟨N4, q1, q2, q3⟩ := e_m_ruled n hn hI hA f (w := 3) (by decide) d
  rw [show ((3 : Nat) : Int) = 3 from rfl] at q1
  have hA4 := hA.fr q2 (by decide)
  refine ⟨N4, ?_, q2⟩
  unfold f_m_findVotes_154 f_m_findVotes_193
  rw [q1, bnd_mk]
  by_cases c : kk σ f 3 d < 0
  · rw [ifp c]
    have h1 : fi σ f 3 d = -5 := by unfold fi; rw [ifp c]; rfl
    have h2 : gd σ f d = -5 := by unfold gd; rw [h1, ifn (by omega)]
    rw [h2, ifp (show (-5 : Int) < 0 by decide)]
  · rw [ifn c]
    have h1 := (q3 (by omega)).2.1 (by decide)
    rw [show (3 : Int).toNat = 3 from rfl, h1, e_m_isHolder n N4 _ (by rw [hA4 0 1 rfl]; exact b), bnd_mk, hA4 0 1 rfl]
    by_cases c2 : 0 ≤ fi σ f 3 d ∧ fi σ f 3 d < σ 0 1
    · have h2 : gd σ f d = fi σ f 3 d := by unfold gd; rw [ifp c2]
      rw [ifp c2, i1, h1, h2, ifn (by omega)]
    · have h2 : gd σ f d = -5 := by unfold gd; rw [ifn c2]
      rw [ifn c2, i0, h2, ifp (show (-5 : Int) < 0 by decide)]
/-- one firm: all but its votes' loops -/
theorem l_m_fvE {N : Mm} (n : Nat) (hn : 3000 ≤ n) (hI : Inv σ) (hA : AgR N σ) (d : Int) (k2 : Int → Int → Mm → Rr) (f : Nat) (hf : f < 16) : ∃ N5, bnd (f_m_ruled n f 0 d N) (fun r6 M6 => if r6 < 0 then f_m_findVotes_38 n k2 d f 0 M6 else f_m_findVotes_38 n k2 d f 1 M6) = lp_m_findVotes_207 n k2 n d f (fi σ f 1 d) (fi σ f 2 d) (se σ f 2 d) (kk σ f 4 d) 0 N5 ∧ Fr cdR FVL N N5 ∧ (∀ x, N5 26 x = if x = f then fi σ f 0 d else N 26 x) ∧ (∀ x, N5 27 x = if x = f then se σ f 0 d else N 27 x) ∧ (∀ x, N5 28 x = if x = f then (if gd σ f d < 0 then -1 else gd σ f d) else N 28 x) ∧ N5 24 = N 24 ∧ N5 25 = N 25 := by
  obtain ⟨N1, a1, a2⟩ := l_m_fvA n hn hI hA d k2 f hf
  have f1 : Fr cdR FVL N (mset N1 26 f (fi σ f 0 d)) := (a2.mono (by decide)).set rfl
  have f2 : Fr cdR FVL N (mset (mset N1 26 f (fi σ f 0 d)) 27 f (se σ f 0 d)) := f1.set rfl
  obtain ⟨N2, b1, b2⟩ := l_m_fvB n hn hI (hA.fr f2 (by decide)) d k2 f hf
  have f3 := f2.trans (b2.mono (by decide))
  obtain ⟨N3, c1, c2⟩ := l_m_fvC n hn hI (hA.fr f3 (by decide)) d k2 f hf (fi σ f 1 d)
  have f4 := f3.trans (c2.mono (by decide))
  obtain ⟨N4, d1, d2⟩ := l_m_fvD n hn hI (hA.fr f4 (by decide)) d k2 f hf (fi σ f 1 d) (fi σ f 2 d) (se σ f 2 d)
  have f5 := f4.trans (d2.mono (by decide))
  have f6 : Fr cdR FVL N (mset N4 28 f (if gd σ f d < 0 then -1 else gd σ f d)) := f5.set rfl
  obtain ⟨N5, e1, e2, -⟩ := e_m_ruled n hn hI (hA.fr f6 (by decide)) f (w := 4) (by decide) d
  rw [show ((4 : Nat) : Int) = 4 from rfl] at e1
  refine ⟨N5, ?_, f6.trans (e2.mono (by decide)), fun x => ?_, fun x => ?_, fun x => ?_, ?_, ?_⟩
  · rw [a1]
    unfold f_m_findVotes_78
    rw [ckp (by omega), Int.toNat_natCast, b1, c1, d1]
    unfold f_m_findVotes_194
    rw [ckp (by omega), Int.toNat_natCast, e1, bnd_mk]
  · rw [e2 26 x rfl, mg_k _ _ _ (by decide), d2 26 x rfl, c2 26 x rfl, b2 26 x rfl, mg_k _ _ _ (by decide), mg, ifp rfl, a2 26 x rfl]
  · rw [e2 27 x rfl, mg_k _ _ _ (by decide), d2 27 x rfl, c2 27 x rfl, b2 27 x rfl, mg, ifp rfl, mg_k _ _ _ (by decide), a2 27 x rfl]
  · rw [e2 28 x rfl, mg, ifp rfl, d2 28 x rfl, c2 28 x rfl, b2 28 x rfl, mg_k _ _ _ (by decide), mg_k _ _ _ (by decide), a2 28 x rfl]
  · funext x
    rw [e2 24 x rfl, mg_k _ _ _ (by decide), d2 24 x rfl, c2 24 x rfl, b2 24 x rfl, mg_k _ _ _ (by decide), mg_k _ _ _ (by decide), a2 24 x rfl]
  · funext x
    rw [e2 25 x rfl, mg_k _ _ _ (by decide), d2 25 x rfl, c2 25 x rfl, b2 25 x rfl, mg_k _ _ _ (by decide), mg_k _ _ _ (by decide), a2 25 x rfl]
/-- one firm: its votes' loops -/
theorem l_m_fvF {N : Mm} (n : Nat) (hn : 3000 ≤ n) (hI : Inv σ) (hA : AgR N σ) {d : Int} (hd : 0 ≤ d ∧ d ≤ 999) {own sn : Nat → Int} (hO : okO σ own sn) (hW : RWo N σ own sn) (k2 : Int → Int → Mm → Rr) (f : Nat) (hf : (f : Int) < σ 0 1) (hF : isF (σ 1) f = true) : ∃ N8, lp_m_findVotes_207 n k2 n d f (fi σ f 1 d) (fi σ f 2 d) (se σ f 2 d) (kk σ f 4 d) 0 N = k2 d ((f + 1 : Nat) : Int) N8 ∧ Fr cdR FVL N N8 ∧ (∀ j : Nat, (j : Int) < σ 0 1 → N8 24 (16 * f + j) = Vt σ d own sn f j) ∧ N8 25 f = Tt σ d own sn f ∧ (∀ q, ¬ (16 * f ≤ q ∧ q < 16 * f + 16) → N8 24 q = N 24 q) ∧ (∀ q, q ≠ f → N8 25 q = N 25 q) ∧ (∀ q, N8 26 q = N 26 q ∧ N8 27 q = N 27 q ∧ N8 28 q = N 28 q) := by
  have b := hI.1.2.1
  have b1 := hI.2.1.1
  have hf16 : f < 16 := by omega
  have z0 : ((0 : Nat) : Int) = 0 := rfl
  have e1 : 0 + (σ 0 1).toNat = (σ 0 1).toNat := Nat.zero_add _
  have e2 : (σ 0 1).toNat < n := by omega
  have e3 : 0 + (σ 0 3).toNat = (σ 0 3).toNat := Nat.zero_add _
  have e4 : (σ 0 3).toNat < n := by omega
  have v0 : ∀ (N : Mm) (g : Nat → Int) (j : Nat), j < 0 → N 24 (16 * f + j) = g j := fun _ _ j hj => absurd hj (Nat.not_lt_zero j)
  obtain ⟨N6, u1, u2, u3, u4⟩ := l_m_fv207 n hI k2 d (fi σ f 1 d) (fi σ f 2 d) (se σ f 2 d) (kk σ f 4 d) f hf16 (σ 0 1).toNat 0 n N e1 e2 hA (v0 N (fun _ => 0))
  have hA6 := hA.fr u2 (by decide)
  have hW6 := hW.fr u2 rfl rfl
  obtain ⟨N7, v1, v2, v3, v4, v5, v6, v7⟩ := l_m_fv238 n hn hI k2 hd hO hf hF (σ 0 3).toNat 0 n N6 e3 e4 hA6 hW6 u3
  have hA7 := hA6.fr v2 (by decide)
  obtain ⟨N8, w1, w2, w3, w4, w5, w6⟩ := l_m_fv403 n hI k2 d own sn f hf16 (σ 0 1).toNat 0 n N7 e1 e2 hA7 (v0 N7 (Vt σ d own sn f)) (fun j _ hj => v3 j hj) v5
  rw [z0] at u1 v1 w1
  refine ⟨N8, by rw [u1, v1, w1], ((u2.mono (by decide)).trans v2).trans (w2.mono (by decide)), w3, w4, fun q hq => ?_, fun q hq => ?_, fun q => ⟨?_, ?_, ?_⟩⟩
  · rw [w5 q hq, v4 q hq, u4 q hq]
  · rw [w6 q hq, v6 q hq, u2 25 q rfl]
  · rw [w2 26 q rfl, (v7 q).1, u2 26 q rfl]
  · rw [w2 27 q rfl, (v7 q).2.1, u2 27 q rfl]
  · rw [w2 28 q rfl, (v7 q).2.2, u2 28 q rfl]
theorem e_m_findVotes {N : Mm} (n : Nat) (hn : 3000 ≤ n) (hI : Inv σ) (hA : AgR N σ) {d : Int} (hd : 0 ≤ d ∧ d ≤ 999) {own sn : Nat → Int} (hO : okO σ own sn) (hW : RWo N σ own sn) : ∃ N', f_m_findVotes n d N = some (0, N') ∧ Fr cdR FVL N N' ∧ RT N' σ d own sn := by
  have b := hI.1.2.1
  have go : ∀ (k f g : Nat) (N : Mm), f + k = (σ 0 1).toNat → k < g → AgR N σ → RWo N σ own sn → (∀ x : Nat, x < f → isF (σ 1) x = true → RTx N σ d own sn x) → ∃ N', lp_m_findVotes_2 n g d f N = some (0, N') ∧ Fr cdR FVL N N' ∧ RT N' σ d own sn := by
    intro k
    induction k with
    | zero =>
      intro f g N hf hg hA hW hP
      obtain ⟨g', rfl, _⟩ := f_pos hg
      show ∃ N', f_m_findVotes_2 n (lp_m_findVotes_2 n g') d f N = _ ∧ _
      unfold f_m_findVotes_2
      rw [ifp (by rw [hA 0 1 rfl]; omega)]
      exact ⟨N, rfl, Fr.rf, fun x hx hF => hP x (by omega) hF⟩
    | succ k ih =>
      intro f g N hf hg hA hW hP
      obtain ⟨g', rfl, hg'⟩ := f_pos hg
      show ∃ N', f_m_findVotes_2 n (lp_m_findVotes_2 n g') d f N = _ ∧ _
      unfold f_m_findVotes_2
      rw [ifn (by rw [hA 0 1 rfl]; omega), ckp (by omega), Int.toNat_natCast, hA.row (k := 1) (fun _ => rfl)]
      by_cases hF : isF (σ 1) f = true
      · have c1 : σ 1 f = 1 := by simpa [isF] using hF
        rw [ifp c1]
        obtain ⟨N5, g1, g2, g3, g4, g5, g6, g7⟩ := l_m_fvE n hn hI hA d (lp_m_findVotes_2 n g') f (by omega)
        obtain ⟨N8, h1, h2, h3, h4, h5, h6, h7⟩ := l_m_fvF n hn hI (hA.fr g2 (by decide)) hd hO (hW.fr g2 rfl rfl) (lp_m_findVotes_2 n g') f (by omega) hF
        have f8 := g2.trans h2
        have hP8 : ∀ x : Nat, x < f + 1 → isF (σ 1) x = true → RTx N8 σ d own sn x := by
          intro x hx hF2
          by_cases e : x = f
          · subst e
            exact ⟨by rw [(h7 x).1, g3, ifp rfl], by rw [(h7 x).2.1, g4, ifp rfl], by rw [(h7 x).2.2, g5, ifp rfl], h4, h3⟩
          · have h := hP x (by omega) hF2
            exact ⟨by rw [(h7 x).1, g3, ifn e]; exact h.1, by rw [(h7 x).2.1, g4, ifn e]; exact h.2.1, by rw [(h7 x).2.2, g5, ifn e]; exact h.2.2.1, by rw [h6 x e, g7]; exact h.2.2.2.1, fun j hj => by rw [h5 _ (by omega), g6]; exact h.2.2.2.2 j hj⟩
        obtain ⟨N9, z1, z2, z3⟩ := ih (f + 1) g' N8 (by omega) hg' (hA.fr f8 (by decide)) (hW.fr f8 rfl rfl) hP8
        exact ⟨N9, by rw [g1, h1]; exact z1, f8.trans z2, z3⟩
      · have c1 : ¬ σ 1 f = 1 := by simpa [isF] using hF
        rw [ifn c1]
        unfold f_m_findVotes_470
        rw [w_succ (by omega)]
        exact ih (f + 1) g' N (by omega) hg' hA hW (by
          intro x hx hF2
          by_cases e : x = f
          · subst e; exact absurd hF2 hF
          · exact hP x (by omega) hF2)
  exact go (σ 0 1).toNat 0 n N (by omega) (by omega) hA hW (fun x hx => by omega)
theorem RWo_day (hI : Inv σ) {N : Mm} {d : Int} (h : ∀ s : Nat, (s : Int) < σ 0 3 → N 22 s = (Wh σ s d).1 ∧ N 23 s = (Wh σ s d).2) : RWo N σ (fun s => ow σ s d) (fun s => si σ s d) := by
  intro s hs
  have h1 := h s hs
  rcases ow_in hI hs d with q | q
  · right
    rw [h1.1]
    exact ⟨by omega, by show ow σ s d < 0; omega⟩
  · left
    rw [h1.1, h1.2]
    exact ⟨q.2.2.1.symm, q.2.2.2.1.symm, q.1⟩
def LKRL : List Nat := [16, 17, 18, 19, 20, 21, 22, 23, 24, 25, 26, 27, 28, 1016, 1017, 1028, 1029, 1030, 1031, 1032, 1033, 1036, 1037, 1038]
theorem e_m_look {N : Mm} (n : Nat) (hn : 3000 ≤ n) (hI : Inv σ) (hA : AgR N σ) {d : Int} (hd : 0 ≤ d ∧ d ≤ 999) : ∃ N', f_m_look n d N = some (0, N') ∧ Fr cdR LKRL N N' ∧ RT N' σ d (fun s => ow σ s d) (fun s => si σ s d) ∧ ∀ s : Nat, (s : Int) < σ 0 3 → N' 22 s = (Wh σ s d).1 ∧ N' 23 s = (Wh σ s d).2 := by
  obtain ⟨N1, g1, g2, g3⟩ := e_m_layOut n hn hI hA d
  obtain ⟨N2, k1, k2, k3⟩ := e_m_findVotes n hn hI (hA.fr g2 (by decide)) hd (okO_day hI d) (RWo_day hI g3)
  refine ⟨N2, ?_, (g2.mono (by decide)).trans (k2.mono (by decide)), k3, fun s hs => by rw [k2 22 s rfl, k2 23 s rfl]; exact g3 s hs⟩
  unfold f_m_look
  rw [g1, bnd_mk, k1, bnd_mk]
theorem e_m_carries {N : Mm} (n : Nat) (hn : 3000 ≤ n) (hI : Inv σ) (hA : AgR N σ) {d : Int} {own sn : Nat → Int} {f : Nat} (hf : (f : Int) < σ 0 1) (hT : RTx N σ d own sn f) (x : Int) : f_m_carries n f x N = some (if carB σ d own sn f (fun h => bI x h) = true then 1 else 0, N) := by
  have b := hI.1.2.1
  obtain ⟨t1, t2, t3, t4, t5⟩ := hT
  have hg : ∀ h, 0 ≤ (if bI x h = true then Vt σ d own sn f h else 0) ∧ (if bI x h = true then Vt σ d own sn f h else 0) ≤ 999 := by
    intro h
    have := Vt_in hI d own sn f h
    split
    · exact this
    · exact ⟨by decide, by decide⟩
  have go : ∀ (k h g : Nat), h + k = (σ 0 1).toNat → k < g → lp_m_carries_5 n g f x (sm h (fun h => if bI x h = true then Vt σ d own sn f h else 0)) h N = some (if carB σ d own sn f (fun h => bI x h) = true then 1 else 0, N) := by
    intro k
    induction k with
    | zero =>
      intro h g hh hg'
      obtain ⟨g', rfl, _⟩ := f_pos hg'
      have e : h = (σ 0 1).toNat := by omega
      subst e
      show f_m_carries_5 n (lp_m_carries_5 n g') f x _ _ N = _
      have bs := se_in hI f (w := 0) (Or.inl rfl) d
      have bs0 := bs.2.2 rfl
      have bF := fi_in hI f (w := 0) (by decide) d
      have bF0 := bF.2.2 (by decide)
      have bT := Tt_in hI d own sn f
      have h1 := Int.mul_nonneg bF0 bT.1
      have h2 : fi σ f 0 d * Tt σ d own sn f ≤ 999 * 15984 := Int.mul_le_mul bF.2.1 bT.2 bT.1 (by decide)
      have s1 := sm_nn (g := fun h => if bI x h = true then Vt σ d own sn f h else 0) (k := (σ 0 1).toNat) (fun h _ => (hg h).1)
      have s2 := sm_ub (g := fun h => if bI x h = true then Vt σ d own sn f h else 0) (k := (σ 0 1).toNat) (B := 999) (fun h _ => (hg h).2)
      have s3 : sm (σ 0 1).toNat (fun h => if bI x h = true then Vt σ d own sn f h else 0) ≤ 15984 := by omega
      have h3 := Int.mul_nonneg bs.1 s1
      have h4 : se σ f 0 d * sm (σ 0 1).toNat (fun h => if bI x h = true then Vt σ d own sn f h else 0) ≤ 999 * 15984 := Int.mul_le_mul bs.2.1 s3 s1 (by decide)
      have ec : carB σ d own sn f (fun h => bI x h) = (decide (tf σ d own sn f < sm (σ 0 1).toNat (fun h => if bI x h = true then Vt σ d own sn f h else 0)) && (decide (gd σ f d < 0) || bI x (gd σ f d).toNat)) := rfl
      have et : tf σ d own sn f < sm (σ 0 1).toNat (fun h => if bI x h = true then Vt σ d own sn f h else 0) ↔ fi σ f 0 d * Tt σ d own sn f < se σ f 0 d * sm (σ 0 1).toNat (fun h => if bI x h = true then Vt σ d own sn f h else 0) := by
        unfold tf
        rw [Int.ediv_lt_iff_lt_mul (by omega), Int.mul_comm (sm _ _)]
      unfold f_m_carries_5 f_m_carries_105
      simp only [ckp (show (0 : Int) ≤ (f : Int) ∧ (f : Int) < 16 by omega), Int.toNat_natCast, t1, t2, t3, t4]
      rw [ifp (by rw [hA 0 1 rfl]; omega), w64_id (by omega) (by omega), w64_id (by omega) (by omega), ec]
      by_cases c : se σ f 0 d * sm (σ 0 1).toNat (fun h => if bI x h = true then Vt σ d own sn f h else 0) ≤ fi σ f 0 d * Tt σ d own sn f
      · rw [ifp c, decide_eq_false (fun q => by have := et.mp q; omega)]; rfl
      · rw [ifn c, decide_eq_true (et.mpr (by omega))]
        rcases gd_in σ f d with c2 | c2
        · rw [ifp (show gd σ f d < 0 by omega), ifp (show (-1 : Int) < 0 by decide), decide_eq_true (show gd σ f d < 0 by omega)]; rfl
        · rw [ifn (show ¬ gd σ f d < 0 by omega), ifn (show ¬ gd σ f d < 0 by omega), decide_eq_false (show ¬ gd σ f d < 0 by omega)]
          obtain ⟨q, hq⟩ := nat_of c2.1
          rw [hq, bit_I (by omega), Int.toNat_natCast]
          cases hb : bI x q <;> rfl
    | succ k ih =>
      intro h g hh hg'
      obtain ⟨g', rfl, hg2⟩ := f_pos hg'
      show f_m_carries_5 n (lp_m_carries_5 n g') f x _ h N = _
      have I := ih (h + 1) g' (by omega) hg2
      have es : sm (h + 1) (fun h => if bI x h = true then Vt σ d own sn f h else 0) = sm h (fun h => if bI x h = true then Vt σ d own sn f h else 0) + (if bI x h = true then Vt σ d own sn f h else 0) := rfl
      have s1 := sm_nn (g := fun h => if bI x h = true then Vt σ d own sn f h else 0) (k := h) (fun h _ => (hg h).1)
      have s2 := sm_ub (g := fun h => if bI x h = true then Vt σ d own sn f h else 0) (k := h) (B := 999) (fun h _ => (hg h).2)
      have s3 := hg h
      rw [es] at I
      unfold f_m_carries_5 f_m_carries_42
      rw [ifn (by rw [hA 0 1 rfl]; omega), bit_I (by omega), w_succ (by omega), w32_s (x := 16 * (f : Int)) (by omega) (by omega), w32_s (x := 16 * (f : Int) + h) (by omega) (by omega), ckp (by omega), show (16 * (f : Int) + h).toNat = 16 * f + h by omega, t5 h (by omega)]
      by_cases c : bI x h = true
      · rw [ifp c, ifn (show ¬ (1 : Int) ≠ 1 by decide)]
        simp only [ifp c] at I s3
        rw [w64_id (by omega) (by omega)]
        exact I
      · rw [ifn c, ifp (show (0 : Int) ≠ 1 by decide)]
        simp only [ifn c] at I
        rw [w64_id (by omega) (by omega)]
        exact I
  exact go (σ 0 1).toNat 0 n (by omega) (by omega)
end
