/-! The class turns to a day; the votes are counted. -/
theorem el16 {L : List Nat} {b x : Nat} (hb : 6 ≤ b) (hx : x < 16) (hL : ((List.range 16).all fun i => L.elem (b + i)) = true) (j : Nat) : L.elem (cdC (b + x) j) = true := by
  have e : cdC (b + x) j = b + x := by unfold cdC; rw [ifn (by omega)]
  rw [e]
  exact List.all_eq_true.mp hL x (List.mem_range.mpr hx)
theorem el16n {L : List Nat} {b x : Nat} (hb : 6 ≤ b) (hx : x < 16) (hL : ((List.range 16).all fun i => !L.elem (b + i)) = true) (j : Nat) : L.elem (cdC (b + x) j) = false := by
  have e : cdC (b + x) j = b + x := by unfold cdC; rw [ifn (by omega)]
  rw [e]
  have h := List.all_eq_true.mp hL x (List.mem_range.mpr hx)
  simpa using h
def LKL : List Nat := [43, 110, 111, 112, 113, 114, 115, 116, 117, 118, 119, 120, 121, 122, 123, 124, 125]
/-- who has each share, since when, and what it weighs: as supposed -/
def OW (M σ : Mm) (d : Int) (own sn : Nat → Int) : Prop := ∀ s : Nat, (s : Int) < σ 0 3 → M 39 s = own s ∧ M 40 s = wt σ d (own s) (sn s) s
/-- what may be supposed -/
def okO (σ : Mm) (own sn : Nat → Int) : Prop := ∀ s : Nat, (s : Int) < σ 0 3 → own s < 0 ∨ (0 ≤ own s ∧ own s < σ 0 1 ∧ 0 ≤ sn s ∧ sn s ≤ 999)
theorem OW.fr {M M' σ : Mm} {d : Int} {own sn : Nat → Int} {L : List Nat} (h : OW M σ d own sn) (f : Fr cdC L M M') (h1 : L.elem 39 = false) (h2 : L.elem 40 = false) : OW M' σ d own sn := by
  intro s hs
  rw [f 39 s h1, f 40 s h2]
  exact h s hs
section
variable {σ : Mm}
theorem e_U_restore {M : Mm} (n : Nat) (hn : 3000 ≤ n) (hI : Inv σ) (hC : RelC M σ) {d : Int} (hd : 0 ≤ d ∧ d ≤ 999) (hL : LK M σ d) {s : Nat} (hs : (s : Int) < σ 0 3) {h sn : Int} (e25 : M 25 s = h) (e26 : M 26 s = sn) (hh : h < 0 ∨ (0 ≤ h ∧ h < σ 0 1 ∧ 0 ≤ sn ∧ sn ≤ 999)) : ∃ M', f_U_restore n s M = some (0, M') ∧ Fr cdC [39, 40, 41] M M' ∧ M' 39 s = h ∧ M' 40 s = wt σ d h sn s ∧ ∀ j, j ≠ s → M' 39 j = M 39 j ∧ M' 40 j = M 40 j := by
  have b1 := hI.2.1.1
  unfold f_U_restore
  simp only [ckp (show (0 : Int) ≤ (s : Int) ∧ (s : Int) < 40 by omega), Int.toNat_natCast, mg_s, mg_k _ _ _ (show (26 : Nat) ≠ 39 by decide), e25, e26]
  have f1 : Fr cdC [39] M (mset M 39 s h) := Fr.rf.set rfl
  obtain ⟨M1, g1, g2⟩ := e_U_weigh n hn hI (hC.fr f1 rfl) hd (hL.fr hI f1 rfl) hs h sn hh
  rw [g1, bnd_mk]
  refine ⟨_, rfl, ((f1.mono rfl).trans (g2.mono rfl)).set rfl, ?_, mg_s _ _ _ _, fun j hj => ⟨?_, ?_⟩⟩
  · rw [mg_k _ _ _ (by decide), g2 39 s rfl, mg_s]
  · rw [mg_k _ _ _ (by decide), g2 39 j rfl, mg_j _ _ _ hj]
  · rw [mg_j _ _ _ hj, g2 40 j rfl, mg_k _ _ _ (by decide)]
theorem e_U_suppose {M : Mm} (n : Nat) (hn : 3000 ≤ n) (hI : Inv σ) (hC : RelC M σ) {d : Int} (hd : 0 ≤ d ∧ d ≤ 999) (hL : LK M σ d) {s : Nat} (hs : (s : Int) < σ 0 3) (h : Int) (hh : h < 0 ∨ (0 ≤ h ∧ h < σ 0 1)) : ∃ M', f_U_suppose n s h M = some (0, M') ∧ Fr cdC [39, 40, 41] M M' ∧ M' 39 s = h ∧ M' 40 s = wt σ d h d s ∧ ∀ j, j ≠ s → M' 39 j = M 39 j ∧ M' 40 j = M 40 j := by
  have b1 := hI.2.1.1
  unfold f_U_suppose
  simp only [ckp (show (0 : Int) ≤ (s : Int) ∧ (s : Int) < 40 by omega), Int.toNat_natCast, mg_k _ _ _ (show (3 : Nat) ≠ 39 by decide), hL.1]
  have f1 : Fr cdC [39] M (mset M 39 s h) := Fr.rf.set rfl
  obtain ⟨M1, g1, g2⟩ := e_U_weigh n hn hI (hC.fr f1 rfl) hd (hL.fr hI f1 rfl) hs h d (by omega)
  rw [g1, bnd_mk]
  refine ⟨_, rfl, ((f1.mono rfl).trans (g2.mono rfl)).set rfl, ?_, mg_s _ _ _ _, fun j hj => ⟨?_, ?_⟩⟩
  · rw [mg_k _ _ _ (by decide), g2 39 s rfl, mg_s]
  · rw [mg_k _ _ _ (by decide), g2 39 j rfl, mg_j _ _ _ hj]
  · rw [mg_j _ _ _ hj, g2 40 j rfl, mg_k _ _ _ (by decide)]
theorem l_U_look31 (n : Nat) (hn : 3000 ≤ n) (hI : Inv σ) {d : Int} (k7 : Int → Mm → Rr) (a f : Nat) (ha : a < 16) (hf : (f : Int) < σ 0 1) : ∀ (r j g : Nat) (M : Mm), j + r = 5 → r < g → RelC M σ → M 3 2 = d → (∀ w, w < j → M (110 + f) w = ic σ f w d) → ∃ M', lp_U_look_31 n k7 g a f j M = k7 ((a + 1 : Nat) : Int) M' ∧ Fr cdC LKL M M' ∧ (∀ w, w < 5 → M' (110 + f) w = ic σ f w d) ∧ M' 43 f = gd σ f d ∧ (∀ x, x < 16 → x ≠ f → M' (110 + x) = M (110 + x) ∧ M' 43 x = M 43 x) := by
  have b := hI.1.2.1
  intro r
  induction r with
  | zero =>
    intro j g M hj hg hC h32 hw
    obtain ⟨g', rfl, _⟩ := f_pos hg
    have e : j = 5 := by omega
    subst e
    show ∃ M', f_U_look_31 n k7 (lp_U_look_31 n k7 g') a f (5 : Nat) M = _ ∧ _
    unfold f_U_look_31
    have eF := e_C_firstOf n hI hC f (w := 3) (by decide) d
    rw [show ((3 : Nat) : Int) = 3 from rfl] at eF
    rw [ifp (by decide), ckp (by omega), Int.toNat_natCast, show (3 : Int).toNat = 3 from rfl, hw 3 (by decide), eF, bnd_mk, e_R_isHolder, bnd_mk, hC.1.2.1]
    have fin : ∀ v, v = gd σ f d → ∃ M', f_U_look_108 n k7 a f v M = k7 ((a + 1 : Nat) : Int) M' ∧ Fr cdC LKL M M' ∧ (∀ w, w < 5 → M' (110 + f) w = ic σ f w d) ∧ M' 43 f = gd σ f d ∧ (∀ x, x < 16 → x ≠ f → M' (110 + x) = M (110 + x) ∧ M' 43 x = M 43 x) := by
      intro v hv
      unfold f_U_look_108
      rw [ckp (by omega), Int.toNat_natCast, w_succ (by omega)]
      refine ⟨_, rfl, Fr.rf.set rfl, fun w hw' => ?_, by rw [mg_s, hv], fun x hx hxf => ⟨by rw [mg_k _ _ _ (by omega)], by rw [mg_j _ _ _ hxf]⟩⟩
      rw [mg_k _ _ _ (by omega)]
      exact hw w hw'
    by_cases c : 0 ≤ fi σ f 3 d ∧ fi σ f 3 d < σ 0 1
    · rw [ifp c, ifn (show ¬ (1 : Int) = 0 by decide)]
      exact fin _ (by unfold gd; rw [ifp c])
    · rw [ifn c, ifp (show (0 : Int) = 0 from rfl)]
      exact fin _ (by unfold gd; rw [ifn c])
  | succ r ih =>
    intro j g M hj hg hC h32 hw
    obtain ⟨g', rfl, hg'⟩ := f_pos hg
    show ∃ M', f_U_look_31 n k7 (lp_U_look_31 n k7 g') a f j M = _ ∧ _
    unfold f_U_look_31
    rw [ifn (by omega), ckp (by omega), h32, e_C_inForce n (by omega) hI hC f (by omega) d, bnd_mk, ckp (by omega), Int.toNat_natCast, Int.toNat_natCast, w_succ (by omega)]
    have fr : Fr cdC LKL M (mset M (110 + f) j (ic σ f j d)) := Fr.rf.set (el16 (by decide) (by omega) (by decide) _)
    obtain ⟨M', g1, g2, g3, g4, g5⟩ := ih (j + 1) g' (mset M (110 + f) j (ic σ f j d)) (by omega) hg' (hC.fr fr (by decide)) (by rw [mg_k _ _ _ (by omega)]; exact h32) (by
      intro w hw'
      by_cases e : w = j
      · subst e; rw [mg_s]
      · rw [mg_j _ _ _ e]; exact hw w (by omega))
    refine ⟨M', g1, fr.trans g2, g3, g4, fun x hx hxf => ?_⟩
    have := g5 x hx hxf
    rw [this.1, this.2, mg_k _ _ _ (by omega), mg_k _ _ _ (by omega)]
    exact ⟨rfl, rfl⟩
theorem l_U_look7 (n : Nat) (hn : 3000 ≤ n) (hI : Inv σ) {d : Int} : ∀ (r h g : Nat) (M : Mm), h + r = (σ 0 1).toNat → r < g → RelC M σ → M 3 2 = d → (∀ x : Nat, x < h → isF (σ 1) x = true → (∀ w : Nat, w < 5 → M (110 + x) w = ic σ x w d) ∧ M 43 x = gd σ x d) → ∃ M', lp_U_look_7 n g (cn h (isF (σ 1))) M = bnd (f_R_lookAt n d M') (fun r4 M4 => lp_U_look_128 n n 0 M4) ∧ Fr cdC LKL M M' ∧ LK M' σ d := by
  have b := hI.1.2.1
  have bf := hI.1.2.2.2.2.2
  intro r
  induction r with
  | zero =>
    intro h g M hh hg hC h32 hP
    obtain ⟨g', rfl, _⟩ := f_pos hg
    have e : h = (σ 0 1).toNat := by omega
    subst e
    show ∃ M', f_U_look_7 n (lp_U_look_7 n g') _ M = _ ∧ _
    unfold f_U_look_7
    rw [ifp (by rw [hC.1.2.2.1]; omega), h32]
    exact ⟨M, rfl, Fr.rf, h32, fun x hx hF => hP x (by omega) hF⟩
  | succ r ih =>
    intro h g M hh hg hC h32 hP
    by_cases hF : isF (σ 1) h = true
    · obtain ⟨g', rfl, hg'⟩ := f_pos hg
      show ∃ M', f_U_look_7 n (lp_U_look_7 n g') _ M = _ ∧ _
      have h19 := hC.1.2.2.2.2.2.2.2.1 h (by omega) hF
      have hlt := cn_lt (p := isF (σ 1)) (show h < (σ 0 1).toNat by omega) hF
      unfold f_U_look_7
      rw [ifn (by rw [hC.1.2.2.1]; omega), ckp (by omega), Int.toNat_natCast, h19]
      obtain ⟨M1, g1, g2, g3, g4, g5⟩ := l_U_look31 n hn hI (d := d) (lp_U_look_7 n g') (cn h (isF (σ 1))) h (by omega) (by omega) 5 0 n M (by omega) (by omega) hC h32 (fun w hw => by omega)
      rw [show ((0 : Nat) : Int) = 0 from rfl] at g1
      rw [g1, ← cn_t hF]
      obtain ⟨M2, k1, k2, k3⟩ := ih (h + 1) g' M1 (by omega) (by omega) (hC.fr g2 (by decide)) ((g2 3 2 rfl).trans h32) (by
        intro x hx hF2
        by_cases e : x = h
        · subst e; exact ⟨g3, g4⟩
        · have q := g5 x (by omega) e
          have p := hP x (by omega) hF2
          rw [q.1, q.2]; exact p)
      exact ⟨M2, k1, g2.trans k2, k3⟩
    · have e : cn (h + 1) (isF (σ 1)) = cn h (isF (σ 1)) := cn_f (by simpa using hF)
      have := ih (h + 1) g M (by omega) (by omega) hC h32 (by
        intro x hx hF2
        by_cases e : x = h
        · subst e; exact absurd hF2 hF
        · exact hP x (by omega) hF2)
      rw [e] at this
      exact this
theorem l_U_look128 (n : Nat) (hn : 3000 ≤ n) (hI : Inv σ) {d : Int} (hd : 0 ≤ d ∧ d ≤ 999) (own sn : Nat → Int) (hO : okO σ own sn) : ∀ (r s g : Nat) (M : Mm), s + r = (σ 0 3).toNat → r < g → RelC M σ → LK M σ d → (∀ x : Nat, (x : Int) < σ 0 3 → M 25 x = own x ∧ M 26 x = sn x) → (∀ x : Nat, x < s → M 39 x = own x ∧ M 40 x = wt σ d (own x) (sn x) x) → ∃ M', lp_U_look_128 n g s M = some (0, M') ∧ Fr cdC [39, 40, 41] M M' ∧ OW M' σ d own sn := by
  have b1 := hI.2.1.1
  intro r
  induction r with
  | zero =>
    intro s g M hs hg hC hL h25 hP
    obtain ⟨g', rfl, _⟩ := f_pos hg
    show ∃ M', f_U_look_128 n (lp_U_look_128 n g') s M = _ ∧ _
    unfold f_U_look_128
    rw [ifp (by rw [hC.2.1.1]; omega)]
    exact ⟨M, rfl, Fr.rf, fun x hx => hP x (by omega)⟩
  | succ r ih =>
    intro s g M hs hg hC hL h25 hP
    obtain ⟨g', rfl, hg'⟩ := f_pos hg
    show ∃ M', f_U_look_128 n (lp_U_look_128 n g') s M = _ ∧ _
    have h := h25 s (by omega)
    obtain ⟨M1, g1, g2, g3, g4, g5⟩ := e_U_restore n hn hI hC hd hL (show (s : Int) < σ 0 3 by omega) h.1 h.2 (hO s (by omega))
    unfold f_U_look_128
    rw [ifn (by rw [hC.2.1.1]; omega), g1, bnd_mk, w_succ (by omega)]
    obtain ⟨M2, k1, k2, k3⟩ := ih (s + 1) g' M1 (by omega) hg' (hC.fr g2 rfl) (hL.fr hI g2 rfl) (fun x hx => by rw [g2 25 x rfl, g2 26 x rfl]; exact h25 x hx) (by
      intro x hx
      by_cases e : x = s
      · subst e; exact ⟨g3, g4⟩
      · rw [(g5 x e).1, (g5 x e).2]; exact hP x (by omega))
    exact ⟨M2, k1, g2.trans k2, k3⟩
def LOOKL : List Nat := [1302, 25, 26, 39, 40, 41, 43, 110, 111, 112, 113, 114, 115, 116, 117, 118, 119, 120, 121, 122, 123, 124, 125]
theorem okO_day (hI : Inv σ) (d : Int) : okO σ (fun s => ow σ s d) (fun s => si σ s d) := by
  intro s hs
  rcases ow_in hI hs d with h | h
  · exact Or.inl (by show ow σ s d < 0; omega)
  · exact Or.inr ⟨h.1, h.2.1, h.2.2.2.2.1, h.2.2.2.2.2.2⟩
theorem e_U_look {M : Mm} (n : Nat) (hn : 3000 ≤ n) (hI : Inv σ) (hC : RelC M σ) {d : Int} (hd : 0 ≤ d ∧ d ≤ 999) : ∃ M', f_U_look n d M = some (0, M') ∧ Fr cdC LOOKL M M' ∧ LK M' σ d ∧ OW M' σ d (fun s => ow σ s d) (fun s => si σ s d) ∧ ∀ s : Nat, (s : Int) < σ 0 3 → M' 25 s = ow σ s d ∧ M' 26 s = si σ s d := by
  have b := hI.1.2.1
  have b1 := hI.2.1.1
  have f0 : Fr cdC [1302] M (mset M 3 2 d) := Fr.rf.set rfl
  obtain ⟨M1, g1, g2, g3⟩ := l_U_look7 n hn hI (d := d) (σ 0 1).toNat 0 n (mset M 3 2 d) (by omega) (by omega) (hC.fr f0 rfl) (mg_s _ _ _ _) (fun x hx => by omega)
  have hC1 : RelC M1 σ := (hC.fr f0 rfl).fr g2 (by decide)
  obtain ⟨M2, k1, k2, k3⟩ := e_R_lookAt n (by omega) hI hC1 d
  obtain ⟨M3, m1, m2, m3⟩ := l_U_look128 n hn hI hd _ _ (okO_day hI d) (σ 0 3).toNat 0 n M2 (by omega) (by omega) (hC1.fr k2 rfl) (g3.fr hI k2 rfl) k3 (fun x hx => by omega)
  refine ⟨M3, ?_, ?_, (g3.fr hI k2 rfl).fr hI m2 rfl, m3, fun s hs => ?_⟩
  · unfold f_U_look
    have g1' : lp_U_look_7 n n 0 (mset M 3 2 d) = _ := g1
    rw [g1', k1, bnd_mk]
    exact m1
  · exact (((f0.mono (by decide)).trans (g2.mono (by decide))).trans (k2.mono (by decide))).trans (m2.mono (by decide))
  · rw [m2 25 s rfl, m2 26 s rfl]
    exact k3 s hs
/-- a holder's votes in a firm: first k shares, unbounded; bounded; all together; too few -/
def rwv (σ : Mm) (d : Int) (own sn : Nat → Int) (x h : Nat) (k : Nat) : Int := sm k (fun s => if σ 3 s = (x : Int) ∧ own s = (h : Int) then wt σ d (own s) (sn s) s else 0)
def Vt (σ : Mm) (d : Int) (own sn : Nat → Int) (x h : Nat) : Int := min (rwv σ d own sn x h (σ 0 3).toNat) (fi σ x 1 d)
def Tt (σ : Mm) (d : Int) (own sn : Nat → Int) (x : Nat) : Int := sm (σ 0 1).toNat (Vt σ d own sn x)
def tf (σ : Mm) (d : Int) (own sn : Nat → Int) (x : Nat) : Int := fi σ x 0 d * Tt σ d own sn x / se σ x 0 d
def TL (M σ : Mm) (d : Int) (own sn : Nat → Int) : Prop := ∀ x : Nat, (x : Int) < σ 0 1 → isF (σ 1) x = true → (∀ h : Nat, (h : Int) < σ 0 1 → M (130 + x) h = Vt σ d own sn x h) ∧ M 44 x = tf σ d own sn x
theorem rwv_in (hI : Inv σ) (d : Int) (own sn : Nat → Int) (x h : Nat) {k : Nat} (hk : (k : Int) ≤ σ 0 3) : 0 ≤ rwv σ d own sn x h k ∧ rwv σ d own sn x h k ≤ k * 98901 := by
  have hg : ∀ s, s < k → 0 ≤ (if σ 3 s = (x : Int) ∧ own s = (h : Int) then wt σ d (own s) (sn s) s else 0) ∧ (if σ 3 s = (x : Int) ∧ own s = (h : Int) then wt σ d (own s) (sn s) s else 0) ≤ 98901 := by
    intro s hs
    have := wt_in hI d (own s) (sn s) (s := s) (by omega)
    split
    · exact this
    · exact ⟨by decide, by decide⟩
  exact ⟨sm_nn (fun s hs => (hg s hs).1), sm_ub (fun s hs => (hg s hs).2)⟩
theorem Vt_in (hI : Inv σ) (d : Int) (own sn : Nat → Int) (x h : Nat) : 0 ≤ Vt σ d own sn x h ∧ Vt σ d own sn x h ≤ 999 := by
  have b1 := hI.2.1.1
  have h1 := rwv_in hI d own sn x h (k := (σ 0 3).toNat) (by omega)
  have h2 := fi_in hI x (w := 1) (by decide) d
  have h3 := h2.2.2 (by decide)
  unfold Vt
  omega
theorem Tt_in (hI : Inv σ) (d : Int) (own sn : Nat → Int) (x : Nat) : 0 ≤ Tt σ d own sn x ∧ Tt σ d own sn x ≤ 15984 := by
  have b := hI.1.2.1
  have h1 := sm_nn (g := Vt σ d own sn x) (k := (σ 0 1).toNat) (fun h _ => (Vt_in hI d own sn x h).1)
  have h2 := sm_ub (g := Vt σ d own sn x) (k := (σ 0 1).toNat) (B := 999) (fun h _ => (Vt_in hI d own sn x h).2)
  unfold Tt
  omega
def TLL : List Nat := [44, 130, 131, 132, 133, 134, 135, 136, 137, 138, 139, 140, 141, 142, 143, 144, 145]
theorem l_U_tally2 (n : Nat) (hI : Inv σ) : ∀ (r h g : Nat) (M : Mm), h + r = (σ 0 1).toNat → r < g → RelC M σ → (∀ x : Nat, x < h → isF (σ 1) x = true → ∀ j, j < 16 → M (130 + x) j = 0) → ∃ M', lp_U_tally_2 n g (cn h (isF (σ 1))) M = lp_U_tally_39 n n 0 M' ∧ Fr cdC TLL M M' ∧ (∀ x : Nat, (x : Int) < σ 0 1 → isF (σ 1) x = true → ∀ j, j < 16 → M' (130 + x) j = 0) := by
  have b := hI.1.2.1
  have bf := hI.1.2.2.2.2.2
  intro r
  induction r with
  | zero =>
    intro h g M hh hg hC hP
    obtain ⟨g', rfl, _⟩ := f_pos hg
    have e : h = (σ 0 1).toNat := by omega
    subst e
    show ∃ M', f_U_tally_2 n (lp_U_tally_2 n g') _ M = _ ∧ _
    unfold f_U_tally_2
    rw [ifp (by rw [hC.1.2.2.1]; omega)]
    exact ⟨M, rfl, Fr.rf, fun x hx hF => hP x (by omega) hF⟩
  | succ r ih =>
    intro h g M hh hg hC hP
    by_cases hF : isF (σ 1) h = true
    · obtain ⟨g', rfl, hg'⟩ := f_pos hg
      show ∃ M', f_U_tally_2 n (lp_U_tally_2 n g') _ M = _ ∧ _
      have h19 := hC.1.2.2.2.2.2.2.2.1 h (by omega) hF
      have hlt := cn_lt (p := isF (σ 1)) (show h < (σ 0 1).toNat by omega) hF
      unfold f_U_tally_2
      rw [ifn (by rw [hC.1.2.2.1]; omega), ckp (by omega), Int.toNat_natCast, h19, ckp (by omega), Int.toNat_natCast, w_succ (by omega), ← cn_t hF]
      have fr : Fr cdC TLL M (mfil M (130 + h) 16 0) := Fr.rowset Fr.rf (fun j => el16 (by decide) (by omega) (by decide) j)
      obtain ⟨M2, k1, k2, k3⟩ := ih (h + 1) g' _ (by omega) (by omega) (hC.fr fr (by decide)) (by
        intro x hx hF2 j hj
        by_cases e : x = h
        · subst e; exact mfil_in _ _ _ _ hj
        · rw [mfil_k _ _ _ (by omega)]; exact hP x (by omega) hF2 j hj)
      exact ⟨M2, k1, fr.trans k2, k3⟩
    · have e : cn (h + 1) (isF (σ 1)) = cn h (isF (σ 1)) := cn_f (by simpa using hF)
      have := ih (h + 1) g M (by omega) (by omega) hC (by
        intro x hx hF2
        by_cases e : x = h
        · subst e; exact absurd hF2 hF
        · exact hP x (by omega) hF2)
      rw [e] at this
      exact this
theorem l_U_tally39 (n : Nat) (hI : Inv σ) {d : Int} (own sn : Nat → Int) (hO : okO σ own sn) : ∀ (r s g : Nat) (M : Mm), s + r = (σ 0 3).toNat → r < g → RelC M σ → OW M σ d own sn → (∀ x : Nat, (x : Int) < σ 0 1 → isF (σ 1) x = true → ∀ j, j < 16 → M (130 + x) j = rwv σ d own sn x j s) → ∃ M', lp_U_tally_39 n g s M = lp_U_tally_97 n n 0 M' ∧ Fr cdC TLL M M' ∧ (∀ x : Nat, (x : Int) < σ 0 1 → isF (σ 1) x = true → ∀ j, j < 16 → M' (130 + x) j = rwv σ d own sn x j (σ 0 3).toNat) := by
  have b := hI.1.2.1
  have b1 := hI.2.1.1
  intro r
  induction r with
  | zero =>
    intro s g M hs hg hC hW hP
    obtain ⟨g', rfl, _⟩ := f_pos hg
    have e : s = (σ 0 3).toNat := by omega
    subst e
    show ∃ M', f_U_tally_39 n (lp_U_tally_39 n g') _ M = _ ∧ _
    unfold f_U_tally_39
    rw [ifp (by rw [hC.2.1.1]; omega)]
    exact ⟨M, rfl, Fr.rf, hP⟩
  | succ r ih =>
    intro s g M hs hg hC hW hP
    obtain ⟨g', rfl, hg'⟩ := f_pos hg
    show ∃ M', f_U_tally_39 n (lp_U_tally_39 n g') s M = _ ∧ _
    have hw := hW s (by omega)
    have hS := hI.2.1.2.2.2.1 s (by omega)
    have m21 := hC.2.1.2.2.1
    have er : ∀ x j, rwv σ d own sn x j (s + 1) = rwv σ d own sn x j s + (if σ 3 s = (x : Int) ∧ own s = (j : Int) then wt σ d (own s) (sn s) s else 0) := fun x j => rfl
    unfold f_U_tally_39 f_U_tally_89
    simp only [ckp (show (0 : Int) ≤ (s : Int) ∧ (s : Int) < 40 by omega), Int.toNat_natCast, hw.1, hw.2, m21, w_succ (show s < 2000000000 by omega)]
    rw [ifn (by rw [hC.2.1.1]; omega)]
    by_cases c : own s < 0
    · rw [ifp c]
      exact ih (s + 1) g' M (by omega) hg' hC hW (fun x hx hF j hj => by rw [hP x hx hF j hj, er, ifn (by omega)]; omega)
    · rcases hO s (by omega) with ho | ho
      · exact absurd ho c
      · obtain ⟨f, hf⟩ := nat_of hS.1.1
        obtain ⟨h, hh⟩ := nat_of ho.1
        have hF : isF (σ 1) f = true := by
          have := hS.1.2.2
          rw [hf, Int.toNat_natCast] at this
          exact decide_eq_true this
        have hp := hP f (by omega) hF h (by omega)
        have bw := wt_in hI d (own s) (sn s) (s := s) (by omega)
        have br := rwv_in hI d own sn f h (k := s) (by omega)
        rw [ifn c, hf, hh]
        simp only [ckp (show (0 : Int) ≤ (f : Int) ∧ (f : Int) < 16 by omega), ckp (show (0 : Int) ≤ (h : Int) ∧ (h : Int) < 16 by omega), Int.toNat_natCast, hp]
        rw [← hh, w32_s (by omega) (by omega)]
        have fr : Fr cdC TLL M (mset M (130 + f) h (rwv σ d own sn f h s + wt σ d (own s) (sn s) s)) := Fr.rf.set (el16 (by decide) (by omega) (by decide) _)
        obtain ⟨M2, k1, k2, k3⟩ := ih (s + 1) g' _ (by omega) hg' (hC.fr fr (by decide)) (hW.fr fr rfl rfl) (by
          intro x hx hF2 j hj
          rw [er]
          by_cases e : x = f
          · subst e
            by_cases e2 : j = h
            · subst e2; rw [mg_s, ifp ⟨hf, hh⟩]
            · rw [mg_j _ _ _ e2, ifn (by omega), hP x hx hF2 j hj]; omega
          · rw [mg_k _ _ _ (by omega), ifn (by omega), hP x hx hF2 j hj]; omega)
        exact ⟨M2, k1, fr.trans k2, k3⟩
theorem l_U_bound (n : Nat) (hI : Inv σ) {d : Int} (own sn : Nat → Int) {f : Nat} (hf : (f : Int) < σ 0 1) (hF : isF (σ 1) f = true) : ∀ (r h g : Nat) (M : Mm), h + r = (σ 0 1).toNat → r < g → RelC M σ → LK M σ d → (∀ j : Nat, j < h → M (130 + f) j = Vt σ d own sn f j) → (∀ j : Nat, h ≤ j → j < 16 → M (130 + f) j = rwv σ d own sn f j (σ 0 3).toNat) → ∃ M', lp_U_bound_22 n g f (fi σ f 1 d) (sm h (Vt σ d own sn f)) h M = some (0, M') ∧ Fr cdC TLL M M' ∧ (∀ j : Nat, (j : Int) < σ 0 1 → M' (130 + f) j = Vt σ d own sn f j) ∧ M' 44 f = tf σ d own sn f ∧ (∀ x, x < 16 → x ≠ f → M' (130 + x) = M (130 + x) ∧ M' 44 x = M 44 x) := by
  have b := hI.1.2.1
  intro r
  induction r with
  | zero =>
    intro h g M hh hg hC hL hP hQ
    obtain ⟨g', rfl, _⟩ := f_pos hg
    have e : h = (σ 0 1).toNat := by omega
    subst e
    show ∃ M', f_U_bound_22 n (lp_U_bound_22 n g') f _ _ _ M = _ ∧ _
    have eF := e_C_firstOf n hI hC f (w := 0) (by decide) d
    have eS := e_C_secondOf n hI hC f (w := 0) (Or.inl rfl) d
    rw [show ((0 : Nat) : Int) = 0 from rfl] at eF eS
    have bs := se_in hI f (w := 0) (Or.inl rfl) d
    have bF := fi_in hI f (w := 0) (by decide) d
    have bF0 := bF.2.2 (by decide)
    have bs0 := bs.2.2 rfl
    have bT := Tt_in hI d own sn f
    have h1 := Int.mul_nonneg bF0 bT.1
    have h2 : fi σ f 0 d * Tt σ d own sn f ≤ 999 * 15984 := Int.mul_le_mul bF.2.1 bT.2 bT.1 (by decide)
    unfold f_U_bound_22
    rw [ifp (by rw [hC.1.2.1]; omega), ckp (by omega), Int.toNat_natCast, show (0 : Int).toNat = 0 from rfl, (hL.2 f hf hF).1 0 (by decide), eS, bnd_mk, ifn (by omega), eF, bnd_mk, ckp (show se σ f 0 d ≠ 0 by omega)]
    unfold f_U_bound_125
    rw [ckp (by omega), Int.toNat_natCast, show sm (σ 0 1).toNat (Vt σ d own sn f) = Tt σ d own sn f from rfl, w32_s (by omega) (by omega), idv_nn ⟨h1, by omega⟩ (by omega)]
    refine ⟨_, rfl, Fr.rf.set rfl, fun j hj => ?_, mg_s _ _ _ _, fun x hx hxf => ⟨by rw [mg_k _ _ _ (by omega)], mg_j _ _ _ hxf⟩⟩
    rw [mg_k _ _ _ (by omega)]
    exact hP j (by omega)
  | succ r ih =>
    intro h g M hh hg hC hL hP hQ
    obtain ⟨g', rfl, hg'⟩ := f_pos hg
    show ∃ M', f_U_bound_22 n (lp_U_bound_22 n g') f _ _ h M = _ ∧ _
    unfold f_U_bound_22
    simp only [ckp (show (0 : Int) ≤ (f : Int) ∧ (f : Int) < 16 by omega), ckp (show (0 : Int) ≤ (h : Int) ∧ (h : Int) < 16 by omega), Int.toNat_natCast, mg_s]
    have bV := fun j => Vt_in hI d own sn f j
    have b2 := sm_nn (g := Vt σ d own sn f) (k := h) (fun j _ => (bV j).1)
    have b3 := sm_ub (g := Vt σ d own sn f) (k := h) (B := 999) (fun j _ => (bV j).2)
    have bVh := bV h
    have eV : min (M (130 + f) h) (fi σ f 1 d) = Vt σ d own sn f h := by rw [hQ h (Nat.le_refl _) (by omega)]; rfl
    rw [ifn (by rw [hC.1.2.1]; omega), eV, w32_s (by omega) (by omega), w_succ (by omega)]
    have fr : Fr cdC TLL M (mset M (130 + f) h (Vt σ d own sn f h)) := Fr.rf.set (el16 (by decide) (by omega) (by decide) _)
    obtain ⟨M2, k1, k2, k3, k4, k5⟩ := ih (h + 1) g' _ (by omega) hg' (hC.fr fr (by decide)) (hL.fr hI fr (by decide)) (by
      intro j hj
      by_cases e : j = h
      · subst e; rw [mg_s]
      · rw [mg_j _ _ _ e]; exact hP j (by omega)) (by
      intro j hj hj2
      rw [mg_j _ _ _ (by omega)]; exact hQ j (by omega) hj2)
    refine ⟨M2, k1, fr.trans k2, k3, k4, fun x hx hxf => ?_⟩
    have := k5 x hx hxf
    rw [this.1, this.2, mg_k _ _ _ (by omega), mg_k _ _ _ (by omega)]
    exact ⟨rfl, rfl⟩
theorem l_U_tally97 (n : Nat) (hn : 3000 ≤ n) (hI : Inv σ) {d : Int} (own sn : Nat → Int) : ∀ (r h g : Nat) (M : Mm), h + r = (σ 0 1).toNat → r < g → RelC M σ → LK M σ d → (∀ x : Nat, x < h → isF (σ 1) x = true → (∀ j : Nat, (j : Int) < σ 0 1 → M (130 + x) j = Vt σ d own sn x j) ∧ M 44 x = tf σ d own sn x) → (∀ x : Nat, h ≤ x → (x : Int) < σ 0 1 → isF (σ 1) x = true → ∀ j, j < 16 → M (130 + x) j = rwv σ d own sn x j (σ 0 3).toNat) → ∃ M', lp_U_tally_97 n g (cn h (isF (σ 1))) M = some (0, M') ∧ Fr cdC TLL M M' ∧ TL M' σ d own sn := by
  have b := hI.1.2.1
  have bf := hI.1.2.2.2.2.2
  intro r
  induction r with
  | zero =>
    intro h g M hh hg hC hL hP hQ
    obtain ⟨g', rfl, _⟩ := f_pos hg
    have e : h = (σ 0 1).toNat := by omega
    subst e
    show ∃ M', f_U_tally_97 n (lp_U_tally_97 n g') _ M = _ ∧ _
    unfold f_U_tally_97
    rw [ifp (by rw [hC.1.2.2.1]; omega)]
    exact ⟨M, rfl, Fr.rf, fun x hx hF => hP x (by omega) hF⟩
  | succ r ih =>
    intro h g M hh hg hC hL hP hQ
    by_cases hF : isF (σ 1) h = true
    · obtain ⟨g', rfl, hg'⟩ := f_pos hg
      show ∃ M', f_U_tally_97 n (lp_U_tally_97 n g') _ M = _ ∧ _
      have h19 := hC.1.2.2.2.2.2.2.2.1 h (by omega) hF
      have hlt := cn_lt (p := isF (σ 1)) (show h < (σ 0 1).toNat by omega) hF
      have eF := e_C_firstOf n hI hC h (w := 1) (by decide) d
      rw [show ((1 : Nat) : Int) = 1 from rfl] at eF
      unfold f_U_tally_97 f_U_bound
      rw [ifn (by rw [hC.1.2.2.1]; omega), ckp (by omega), Int.toNat_natCast, h19, ckp (by omega), Int.toNat_natCast, show (1 : Int).toNat = 1 from rfl, (hL.2 h (by omega) hF).1 1 (by decide), eF, bnd_mk]
      obtain ⟨M1, g1, g2, g3, g4, g5⟩ := l_U_bound n hI (d := d) own sn (f := h) (by omega) hF (σ 0 1).toNat 0 n M (by omega) (by omega) hC hL (fun j hj => by omega) (fun j _ hj => hQ h (Nat.le_refl _) (by omega) hF j hj)
      have g1' : lp_U_bound_22 n n h (fi σ h 1 d) 0 0 M = some (0, M1) := g1
      rw [g1', bnd_mk, w_succ (by omega), ← cn_t hF]
      obtain ⟨M2, k1, k2, k3⟩ := ih (h + 1) g' M1 (by omega) (by omega) (hC.fr g2 (by decide)) (hL.fr hI g2 (by decide)) (by
        intro x hx hF2
        by_cases e : x = h
        · subst e; exact ⟨g3, g4⟩
        · have q := g5 x (by omega) e
          rw [q.1, q.2]; exact hP x (by omega) hF2) (by
        intro x hx hx2 hF2 j hj
        have q := g5 x (by omega) (by omega)
        rw [q.1]; exact hQ x (by omega) hx2 hF2 j hj)
      exact ⟨M2, k1, g2.trans k2, k3⟩
    · have e : cn (h + 1) (isF (σ 1)) = cn h (isF (σ 1)) := cn_f (by simpa using hF)
      have := ih (h + 1) g M (by omega) (by omega) hC hL (by
        intro x hx hF2
        by_cases e : x = h
        · subst e; exact absurd hF2 hF
        · exact hP x (by omega) hF2) (fun x hx hx2 hF2 => hQ x (by omega) hx2 hF2)
      rw [e] at this
      exact this
theorem e_U_tally {M : Mm} (n : Nat) (hn : 3000 ≤ n) (hI : Inv σ) (hC : RelC M σ) {d : Int} (hL : LK M σ d) {own sn : Nat → Int} (hO : okO σ own sn) (hW : OW M σ d own sn) : ∃ M', f_U_tally n M = some (0, M') ∧ Fr cdC TLL M M' ∧ TL M' σ d own sn := by
  have b := hI.1.2.1
  have b1 := hI.2.1.1
  obtain ⟨M1, g1, g2, g3⟩ := l_U_tally2 n hI (σ 0 1).toNat 0 n M (by omega) (by omega) hC (fun x hx => by omega)
  have hC1 := hC.fr g2 (by decide)
  obtain ⟨M2, k1, k2, k3⟩ := l_U_tally39 n hI (d := d) own sn hO (σ 0 3).toNat 0 n M1 (by omega) (by omega) hC1 (hW.fr g2 rfl rfl) g3
  have hC2 := hC1.fr k2 (by decide)
  obtain ⟨M3, m1, m2, m3⟩ := l_U_tally97 n hn hI (d := d) own sn (σ 0 1).toNat 0 n M2 (by omega) (by omega) hC2 ((hL.fr hI g2 (by decide)).fr hI k2 (by decide)) (fun x hx => by omega) (fun x _ hx hF j hj => k3 x hx hF j hj)
  refine ⟨M3, ?_, (g2.trans k2).trans m2, m3⟩
  unfold f_U_tally
  have g1' : lp_U_tally_2 n n 0 M = _ := g1
  have k1' : lp_U_tally_39 n n 0 M1 = _ := k1
  rw [g1', k1']
  exact m1
/-- whether a set of holders carries in a firm -/
def cS (σ : Mm) (d : Int) (own sn : Nat → Int) (x : Nat) (p : Nat → Bool) : Prop := tf σ d own sn x < sm (σ 0 1).toNat (fun h => if p h = true then Vt σ d own sn x h else 0) ∧ (gd σ x d < 0 ∨ p (gd σ x d).toNat = true)
end
