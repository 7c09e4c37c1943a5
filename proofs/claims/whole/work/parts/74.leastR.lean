/-! The reference: rulers, groups, LEAST. -/
section
variable {σ : Mm}
theorem samK_r {kd fa : Nat → Int} {h r : Nat} (hf : fa h = fa r) (k : Nat) : samK kd fa h k = samK kd fa r k := by unfold samK; rw [hf]
/-- KIN of one family have one least -/
theorem hdN_fam {kd fa : Nat → Int} {h r : Nat} (h3 : kd h = 3) (r3 : kd r = 3) (hf : fa h = fa r) (hr : hdN kd fa r = r) : hdN kd fa h = r := by
  unfold hdN at hr ⊢
  rw [ifp r3] at hr
  rw [ifp h3]
  have hl : ∀ j, j < r → samK kd fa h j = false := by
    intro j hj
    rw [samK_r hf]
    exact fsn_least (by rw [hr]; exact hj) hj
  have hp : samK kd fa h r = true := by
    unfold samK
    exact decide_eq_true ⟨r3, hf.symm⟩
  by_cases c : r < h
  · exact fsn_eq c hp hl
  · by_cases c2 : h < r
    · have := hl h c2
      unfold samK at this
      rw [decide_eq_true ⟨h3, rfl⟩] at this; cases this
    · have e : r = h := by omega
      subst e
      exact fsn_none hl
theorem hdN_is {kd fa : Nat → Int} {h : Nat} (h3 : kd h = 3) : kd (hdN kd fa h) = 3 ∧ fa (hdN kd fa h) = fa h ∧ hdN kd fa h ≤ h := by
  unfold hdN
  rw [ifp h3]
  by_cases c : fsn h (samK kd fa h) < h
  · have := fsn_p c
    unfold samK at this
    have := of_decide_eq_true this
    exact ⟨this.1, this.2, by omega⟩
  · have e : fsn h (samK kd fa h) = h := by have := fsn_le (samK kd fa h) h; omega
    rw [e]
    exact ⟨h3, rfl, Nat.le_refl _⟩
theorem hdN_hd (kd fa : Nat → Int) (h : Nat) : hdN kd fa (hdN kd fa h) = hdN kd fa h := by
  by_cases h3 : kd h = 3
  · have e := hdN_is (fa := fa) h3
    have hl : ∀ j, j < hdN kd fa h → samK kd fa (hdN kd fa h) j = false := by
      intro j hj
      rw [samK_r e.2.1]
      have e2 : hdN kd fa h = fsn h (samK kd fa h) := by unfold hdN; rw [ifp h3]
      rw [e2] at hj
      exact fsn_least hj (by have := e.2.2; omega)
    show (if kd (hdN kd fa h) = 3 then fsn (hdN kd fa h) (samK kd fa (hdN kd fa h)) else hdN kd fa h) = hdN kd fa h
    rw [ifp e.1]
    exact fsn_none hl
  · have e : hdN kd fa h = h := by unfold hdN; rw [ifn h3]
    rw [e, e]
theorem e_m_leastKin {N : Mm} (n : Nat) (hn : 3000 ≤ n) (hI : Inv σ) (hA : AgR N σ) {h : Nat} (hh : (h : Int) < σ 0 1) (h3 : σ 1 h = 3) : f_m_leastKin n h N = some ((hdN (σ 1) (σ 2) h : Int), N) := by
  have b := hI.1.2.1
  have a1 : N 1 = σ 1 := hA.row fun _ => rfl
  have a2 : N 2 = σ 2 := hA.row fun _ => rfl
  have hd := hdN_is (fa := σ 2) h3
  have go : ∀ (k i g : Nat), i + k = hdN (σ 1) (σ 2) h → k < g → lp_m_leastKin_2 n g h i N = some ((hdN (σ 1) (σ 2) h : Int), N) := by
    intro k
    induction k with
    | zero =>
      intro i g hi hg
      obtain ⟨g', rfl, _⟩ := f_pos hg
      show f_m_leastKin_2 n (lp_m_leastKin_2 n g') h i N = _
      have e : i = hdN (σ 1) (σ 2) h := by omega
      subst e
      unfold f_m_leastKin_2
      simp only [ckp (show (0 : Int) ≤ (hdN (σ 1) (σ 2) h : Int) ∧ (hdN (σ 1) (σ 2) h : Int) < 16 by omega), ckp (show (0 : Int) ≤ (h : Int) ∧ (h : Int) < 16 by omega), Int.toNat_natCast, a1, a2]
      rw [ifn (by rw [hd.1]; decide), ifp hd.2.1]
    | succ k ih =>
      intro i g hi hg
      obtain ⟨g', rfl, hg'⟩ := f_pos hg
      show f_m_leastKin_2 n (lp_m_leastKin_2 n g') h i N = _
      have e2 : hdN (σ 1) (σ 2) h = fsn h (samK (σ 1) (σ 2) h) := by unfold hdN; rw [ifp h3]
      have hl : samK (σ 1) (σ 2) h i = false := fsn_least (by rw [← e2]; omega) (by omega)
      unfold f_m_leastKin_2 f_m_leastKin_27
      simp only [ckp (show (0 : Int) ≤ (i : Int) ∧ (i : Int) < 16 by omega), ckp (show (0 : Int) ≤ (h : Int) ∧ (h : Int) < 16 by omega), Int.toNat_natCast, a1, a2, w_succ (show i < 2000000000 by omega)]
      by_cases c : σ 1 i = 3
      · rw [ifn (by simpa using c), ifn (fun q => by
          unfold samK at hl
          rw [decide_eq_true ⟨c, q⟩] at hl; cases hl)]
        exact ih (i + 1) g' (by omega) hg'
      · rw [ifp c]
        exact ih (i + 1) g' (by omega) hg'
  exact go (hdN (σ 1) (σ 2) h) 0 n (by omega) (by omega)
theorem isU_2 {kd fa : Nat → Int} {h : Nat} (h2 : kd h = 2) : isU kd fa h = true := by
  unfold isU isP hdN
  simp [h2]
theorem e_m_isRuler {N : Mm} (n : Nat) (hn : 3000 ≤ n) (hI : Inv σ) (hA : AgR N σ) (x : Int) : f_m_isRuler n x N = some (if 0 ≤ x ∧ x < σ 0 1 ∧ isU (σ 1) (σ 2) x.toNat = true then 1 else 0, N) := by
  have b := hI.1.2.1
  have a1 : N 1 = σ 1 := hA.row fun _ => rfl
  have a01 : N 0 1 = σ 0 1 := hA 0 1 rfl
  unfold f_m_isRuler f_m_isRuler_41
  rw [e_m_isHolder n N x (by rw [a01]; exact b), bnd_mk, a01]
  by_cases c : 0 ≤ x ∧ x < σ 0 1
  · obtain ⟨h, rfl⟩ := nat_of c.1
    rw [ifp c, ifn (show ¬ (1 : Int) = 0 by decide)]
    simp only [ckp (show (0 : Int) ≤ (h : Int) ∧ (h : Int) < 16 by omega), Int.toNat_natCast, a1]
    by_cases c2 : σ 1 h = 2
    · rw [ifp c2, ifp ⟨c.1, c.2, isU_2 c2⟩]
    · rw [ifn c2]
      by_cases c3 : σ 1 h = 3
      · rw [ifn (by simpa using c3), e_m_leastKin n hn hI hA c.2 c3, bnd_mk]
        by_cases c4 : hdN (σ 1) (σ 2) h = h
        · rw [ifn (by omega), ifp ⟨c.1, c.2, by unfold isU isP; simp [c3, c4]⟩]
        · rw [ifp (by omega), ifn (fun q => by
            have := q.2.2
            unfold isU isP at this
            simp [c3, c4] at this)]
      · rw [ifp c3, ifn (fun q => by
          have := q.2.2
          unfold isU isP at this
          simp [c2, c3] at this)]
  · rw [ifn c, ifp (show (0 : Int) = 0 from rfl), ifn (fun q => c ⟨q.1, q.2.1⟩)]
/-- the class asks the same -/
theorem e_R_isRulerU {M : Mm} (n : Nat) (hI : Inv σ) (hC : RelC M σ) (x : Int) : f_R_isRuler n x M = some (if 0 ≤ x ∧ x < σ 0 1 ∧ isU (σ 1) (σ 2) x.toNat = true then 1 else 0, M) := by
  have b := hI.1.2.1
  rw [e_R_isRuler n M x (by rw [hC.1.2.1]; exact b.2), hC.1.2.1, hC.1.2.2.2.2.2.1]
  by_cases c : 0 ≤ x ∧ x < σ 0 1
  · have h18 := hC.1.2.2.2.2.2.2.1 x.toNat (by omega)
    rw [h18]
    have e : (0 ≤ x ∧ x < σ 0 1 ∧ (σ 1 x.toNat = 2 ∨ σ 1 x.toNat = 3) ∧ (hdN (σ 1) (σ 2) x.toNat : Int) = x) ↔ (0 ≤ x ∧ x < σ 0 1 ∧ isU (σ 1) (σ 2) x.toNat = true) := by
      unfold isU isP
      simp only [Bool.and_eq_true, decide_eq_true_eq]
      constructor
      · rintro ⟨h1, h2, h3, h4⟩; exact ⟨h1, h2, h3, by omega⟩
      · rintro ⟨h1, h2, h3, h4⟩; exact ⟨h1, h2, h3, by omega⟩
    by_cases c2 : 0 ≤ x ∧ x < σ 0 1 ∧ isU (σ 1) (σ 2) x.toNat = true
    · rw [ifp c2, ifp (e.mpr c2)]
    · rw [ifn c2, ifn (fun q => c2 (e.mp q))]
  · rw [ifn (fun q => c ⟨q.1, q.2.1⟩), ifn (fun q => c ⟨q.1, q.2.1⟩)]
/-- who rules, in the reference's row -/
def RBy (N σ : Mm) (rb : Nat → Int) : Prop := ∀ x : Nat, x < 16 → N 29 x = (if rb x < 0 then -1 else rb x)
theorem RBy.fr {N N' : Mm} {rb : Nat → Int} {L : List Nat} (h : RBy N σ rb) (f : Fr cdR L N N') (h1 : L.elem 29 = false) : RBy N' σ rb := by
  intro x hx
  rw [f 29 x h1]; exact h x hx
theorem RT.fr {N N' : Mm} {d : Int} {own sn : Nat → Int} {L : List Nat} (h : RT N σ d own sn) (f : Fr cdR L N N') (hd : ([24, 25, 26, 27, 28].all fun x => !L.elem x) = true) : RT N' σ d own sn := by
  have g := List.all_eq_true.mp hd
  have e : ∀ c, c ∈ [24, 25, 26, 27, 28] → L.elem c = false := fun c hc => by simpa using g c hc
  intro x hx hF
  obtain ⟨t1, t2, t3, t4, t5⟩ := h x hx hF
  exact ⟨(f 26 x (e 26 (by decide))).trans t1, (f 27 x (e 27 (by decide))).trans t2, (f 28 x (e 28 (by decide))).trans t3, (f 25 x (e 25 (by decide))).trans t4, fun j hj => (f 24 _ (e 24 (by decide))).trans (t5 j hj)⟩
theorem bI_toint {x : Int} (h : inR x) : inR x := h
theorem e_m_groupOf {N : Mm} (n : Nat) (hn : 3000 ≤ n) (hI : Inv σ) (hA : AgR N σ) {rb : Nat → Int} (hR : RBy N σ rb) {r : Nat} (hr : (r : Int) < σ 0 1) (hU : isU (σ 1) (σ 2) r = true) : ∃ v, f_m_groupOf n r N = some (v, N) ∧ inR v ∧ ∀ h : Nat, (h : Int) < σ 0 1 → bI v h = grp σ rb r h := by
  have b := hI.1.2.1
  have a1 : N 1 = σ 1 := hA.row fun _ => rfl
  have a2 : N 2 = σ 2 := hA.row fun _ => rfl
  have hPr : (σ 1 r = 2 ∨ σ 1 r = 3) ∧ hdN (σ 1) (σ 2) r = r := by
    unfold isU isP at hU
    simpa using hU
  -- one holder's bit
  have hbit : ∀ h : Nat, (h : Int) < σ 0 1 → (grp σ rb r h = true ↔ (σ 1 h = 1 ∧ rb h = (r : Int)) ∨ (σ 1 h = 3 ∧ σ 1 r = 3 ∧ σ 2 h = σ 2 r) ∨ h = r) := by
    intro h hh
    unfold grp bk
    rw [decide_eq_true_eq]
    by_cases hF : isF (σ 1) h = true
    · have f1 : σ 1 h = 1 := by simpa [isF] using hF
      rw [ifp hF]
      constructor
      · intro q; exact Or.inl ⟨f1, q⟩
      · rintro (q | q | q)
        · exact q.2
        · omega
        · subst q; omega
    · have f1 : ¬ σ 1 h = 1 := by simpa [isF] using hF
      rw [ifn hF]
      constructor
      · intro q
        have q' : hdN (σ 1) (σ 2) h = r := by omega
        by_cases h3 : σ 1 h = 3
        · have e := hdN_is (fa := σ 2) h3
          rw [q'] at e
          exact Or.inr (Or.inl ⟨h3, e.1, e.2.1.symm⟩)
        · right; right
          unfold hdN at q'
          rw [ifn h3] at q'
          exact q'
      · rintro (q | q | q)
        · exact absurd q.1 f1
        · rw [hdN_fam q.1 q.2.1 q.2.2 hPr.2]
        · subst q; rw [hPr.2]
  have go : ∀ (k i g : Nat) (v : Int), i + k = (σ 0 1).toNat → k < g → inR v → (∀ h : Nat, (h : Int) < σ 0 1 → bI v h = ((decide (h < i) && grp σ rb r h) || decide (h = r))) → ∃ v', lp_m_groupOf_6 n g r v i N = some (v', N) ∧ inR v' ∧ ∀ h : Nat, (h : Int) < σ 0 1 → bI v' h = grp σ rb r h := by
    intro k
    induction k with
    | zero =>
      intro i g v hi hg hv hb
      obtain ⟨g', rfl, _⟩ := f_pos hg
      show ∃ v', f_m_groupOf_6 n (lp_m_groupOf_6 n g') r v i N = _ ∧ _
      unfold f_m_groupOf_6
      rw [ifp (by rw [hA 0 1 rfl]; omega)]
      refine ⟨v, rfl, hv, fun h hh => ?_⟩
      rw [hb h hh, decide_eq_true (show h < i by omega), Bool.true_and]
      by_cases c : h = r
      · rw [decide_eq_true c, (hbit h hh).mpr (Or.inr (Or.inr c))]; rfl
      · rw [decide_eq_false c, Bool.or_false]
    | succ k ih =>
      intro i g v hi hg hv hb
      obtain ⟨g', rfl, hg'⟩ := f_pos hg
      show ∃ v', f_m_groupOf_6 n (lp_m_groupOf_6 n g') r v i N = _ ∧ _
      have yes : ((σ 1 i = 1 ∧ rb i = (r : Int)) ∨ (σ 1 i = 3 ∧ σ 1 r = 3 ∧ σ 2 i = σ 2 r)) → ∃ v', f_m_groupOf_77 n (lp_m_groupOf_6 n g') r i v (ish 1 i) N = some (v', N) ∧ inR v' ∧ ∀ h : Nat, (h : Int) < σ 0 1 → bI v' h = grp σ rb r h := by
        intro q
        have gi : grp σ rb r i = true := (hbit i (by omega)).mpr (by rcases q with q | q; exact Or.inl q; exact Or.inr (Or.inl q))
        unfold f_m_groupOf_77
        rw [w_succ (by omega)]
        refine ih (i + 1) g' _ (by omega) hg' (ir_or _ _) fun h hh => ?_
        rw [bI_or, hb h hh, bI_bit (by omega)]
        by_cases c : h = i
        · subst c; simp [gi]
        · by_cases c2 : h < i
          · simp [c, c2, show h < i + 1 by omega]
          · simp [c, c2, show ¬ h < i + 1 by omega]
      have no : ¬ ((σ 1 i = 1 ∧ rb i = (r : Int)) ∨ (σ 1 i = 3 ∧ σ 1 r = 3 ∧ σ 2 i = σ 2 r)) → ∃ v', f_m_groupOf_77 n (lp_m_groupOf_6 n g') r i v 0 N = some (v', N) ∧ inR v' ∧ ∀ h : Nat, (h : Int) < σ 0 1 → bI v' h = grp σ rb r h := by
        intro q
        unfold f_m_groupOf_77
        rw [w_succ (by omega)]
        refine ih (i + 1) g' _ (by omega) hg' (ir_or _ _) fun h hh => ?_
        rw [bI_or, hb h hh, bI_0, Bool.or_false]
        by_cases c : h = i
        · subst c
          by_cases c2 : h = r
          · simp [c2]
          · have gi : grp σ rb r h = false := by
              cases e : grp σ rb r h with
              | false => rfl
              | true =>
                rcases (hbit h hh).mp e with z | z | z
                · exact absurd (Or.inl z) q
                · exact absurd (Or.inr z) q
                · exact absurd z c2
            simp [gi]
        · by_cases c2 : h < i
          · simp [c2, show h < i + 1 by omega]
          · simp [c2, show ¬ h < i + 1 by omega]
      unfold f_m_groupOf_6 f_m_groupOf_35 f_m_groupOf_76 f_m_groupOf_70
      simp only [ckp (show (0 : Int) ≤ (i : Int) ∧ (i : Int) < 16 by omega), ckp (show (0 : Int) ≤ (r : Int) ∧ (r : Int) < 16 by omega), Int.toNat_natCast, a1, a2]
      rw [ifn (by rw [hA 0 1 rfl]; omega)]
      by_cases c1 : σ 1 i = 1
      · rw [ifn (by simpa using c1)]
        have e29 := hR i (by omega)
        by_cases c2 : rb i = (r : Int)
        · rw [ifp (by rw [e29, c2, ifn (by omega)])]
          exact yes (Or.inl ⟨c1, c2⟩)
        · rw [ifn (by
            rw [e29]
            intro q
            by_cases z : rb i < 0
            · rw [ifp z] at q; omega
            · rw [ifn z] at q; exact c2 q), ifp (show σ 1 i ≠ 3 by omega)]
          exact no (by rintro (q | q); exact c2 q.2; omega)
      · rw [ifp c1]
        by_cases c3 : σ 1 i = 3
        · rw [ifn (by simpa using c3)]
          by_cases c4 : σ 1 r = 3
          · rw [ifn (by simpa using c4)]
            by_cases c5 : σ 2 i = σ 2 r
            · rw [ifn (by simpa using c5)]
              exact yes (Or.inr ⟨c3, c4, c5⟩)
            · rw [ifp c5]
              exact no (by rintro (q | q); exact c1 q.1; exact c5 q.2.2)
          · rw [ifp c4]
            exact no (by rintro (q | q); exact c1 q.1; exact c4 q.2.1)
        · rw [ifp c3]
          exact no (by rintro (q | q); exact c1 q.1; exact c3 q.1)
  obtain ⟨v, g1, g2, g3⟩ := go (σ 0 1).toNat 0 n (ish 1 r) (by omega) (by omega) (ir_sh _ _) (fun h hh => by rw [bI_bit (by omega)]; simp)
  exact ⟨v, g1, g2, g3⟩
theorem carB_c {d : Int} {own sn : Nat → Int} {x : Nat} {p q : Nat → Bool} (h : ∀ i : Nat, (i : Int) < σ 0 1 → p i = q i) : carB σ d own sn x p = carB σ d own sn x q := by
  unfold carB
  rw [sm_congr (g' := fun h => if q h = true then Vt σ d own sn x h else 0) (fun i hi => by simp only [h i (by omega)])]
  rcases gd_in σ x d with c | c
  · rw [c]; simp
  · rw [h _ (by omega)]
/-- steps, as the reference has them -/
def RS (N σ : Mm) (s : LSt) : Prop := RBy N σ s.1 ∧ N 0 48 = (s.2.2 : Int) ∧ ∀ j : Nat, j < s.2.2 → N 30 j = s.2.1 j
def FLL : List Nat := [29, 30, 1048]
theorem e_m_nobodyRules (n : Nat) (hn : 3000 ≤ n) (N : Mm) : ∃ N', f_m_nobodyRules n N = some (0, N') ∧ Fr cdR [29, 1048] N N' ∧ (∀ x, x < 16 → N' 29 x = -1) ∧ N' 0 48 = 0 := by
  have go : ∀ (k i g : Nat) (N : Mm), i + k = 16 → k < g → (∀ x, x < i → N 29 x = -1) → N 0 48 = 0 → ∃ N', lp_m_nobodyRules_7 n g i N = some (0, N') ∧ Fr cdR [29, 1048] N N' ∧ (∀ x, x < 16 → N' 29 x = -1) ∧ N' 0 48 = 0 := by
    intro k
    induction k with
    | zero =>
      intro i g N hi hg hP h48
      obtain ⟨g', rfl, _⟩ := f_pos hg
      show ∃ N', f_m_nobodyRules_7 n (lp_m_nobodyRules_7 n g') i N = _ ∧ _
      unfold f_m_nobodyRules_7
      rw [ifp (by omega)]
      exact ⟨N, rfl, Fr.rf, fun x hx => hP x (by omega), h48⟩
    | succ k ih =>
      intro i g N hi hg hP h48
      obtain ⟨g', rfl, hg'⟩ := f_pos hg
      show ∃ N', f_m_nobodyRules_7 n (lp_m_nobodyRules_7 n g') i N = _ ∧ _
      unfold f_m_nobodyRules_7
      rw [ifn (by omega), ckp (by omega), Int.toNat_natCast, w_succ (by omega)]
      have fr : Fr cdR [29, 1048] N (mset N 29 i (-1)) := Fr.rf.set rfl
      obtain ⟨N2, k1, k2, k3, k4⟩ := ih (i + 1) g' (mset N 29 i (-1)) (by omega) hg' (by
        intro x hx
        by_cases e : x = i
        · rw [e, mg_s]
        · rw [mg_j _ _ _ e]; exact hP x (by omega)) (by rw [mg_k _ _ _ (by decide)]; exact h48)
      exact ⟨N2, k1, fr.trans k2, k3, k4⟩
  have f0 : Fr cdR [29, 1048] N (mset N 0 48 0) := Fr.rf.set rfl
  obtain ⟨N2, k1, k2, k3, k4⟩ := go 16 0 n (mset N 0 48 0) (by omega) (by omega) (fun x hx => by omega) (mg_s _ _ _ _)
  exact ⟨N2, k1, f0.trans k2, k3, k4⟩
theorem l_m_fl46 (n : Nat) (hn : 3000 ≤ n) (hI : Inv σ) {d : Int} {own sn : Nat → Int} (k6 : Int → Mm → Rr) (k14 : Int → Int → Mm → Rr) (br : Int) {f : Nat} (hf : (f : Int) < σ 0 1) {rb : Nat → Int} (hneg : rb f < 0) : ∀ (k r g : Nat) (N : Mm), r + k = (σ 0 1).toNat → k < g → AgR N σ → RTx N σ d own sn f → RBy N σ rb → (∀ i, i < r → (isU (σ 1) (σ 2) i && carB σ d own sn f (grp σ rb i)) = false) → ∃ N', lp_m_findLeast_46 n k6 k14 g br f r N = f_m_findLeast_97 n k6 k14 br f N' ∧ Fr cdR [29] N N' ∧ (∀ x, x < 16 → N' 29 x = if x = f ∧ lrl σ d own sn rb f < (σ 0 1).toNat then (lrl σ d own sn rb f : Int) else N 29 x) := by
  have b := hI.1.2.1
  intro k
  induction k with
  | zero =>
    intro r g N hr hg hA hT hR hP
    obtain ⟨g', rfl, _⟩ := f_pos hg
    have e : r = (σ 0 1).toNat := by omega
    subst e
    show ∃ N', f_m_findLeast_46 n k6 k14 (lp_m_findLeast_46 n k6 k14 g') br f _ N = _ ∧ _
    have e2 : lrl σ d own sn rb f = (σ 0 1).toNat := fsn_none hP
    unfold f_m_findLeast_46
    rw [ifp (by rw [hA 0 1 rfl]; omega)]
    exact ⟨N, rfl, Fr.rf, fun x hx => by rw [ifn (by omega)]⟩
  | succ k ih =>
    intro r g N hr hg hA hT hR hP
    obtain ⟨g', rfl, hg'⟩ := f_pos hg
    show ∃ N', f_m_findLeast_46 n k6 k14 (lp_m_findLeast_46 n k6 k14 g') br f r N = _ ∧ _
    have skip : (isU (σ 1) (σ 2) r && carB σ d own sn f (grp σ rb r)) = false → ∃ N', f_m_findLeast_91 n k6 k14 (lp_m_findLeast_46 n k6 k14 g') br f r N = f_m_findLeast_97 n k6 k14 br f N' ∧ Fr cdR [29] N N' ∧ (∀ x, x < 16 → N' 29 x = if x = f ∧ lrl σ d own sn rb f < (σ 0 1).toNat then (lrl σ d own sn rb f : Int) else N 29 x) := by
      intro q
      unfold f_m_findLeast_91
      rw [w_succ (by omega)]
      refine ih (r + 1) g' N (by omega) hg' hA hT hR fun i hi => ?_
      by_cases e : i = r
      · rw [e]; exact q
      · exact hP i (by omega)
    have e29 : N 29 f = -1 := by rw [hR f (by omega), ifp hneg]
    unfold f_m_findLeast_46
    rw [ifn (by rw [hA 0 1 rfl]; omega), ckp (by omega), Int.toNat_natCast, e29, ifn (show ¬ (0 : Int) ≤ -1 by decide), e_m_isRuler n hn hI hA, bnd_mk]
    by_cases c : isU (σ 1) (σ 2) r = true
    · simp only [Int.toNat_natCast, ifp (show 0 ≤ (r : Int) ∧ (r : Int) < σ 0 1 ∧ isU (σ 1) (σ 2) r = true from ⟨by omega, by omega, c⟩), i1]
      obtain ⟨v, v1, v2, v3⟩ := e_m_groupOf n hn hI hA hR (r := r) (by omega) c
      rw [v1, bnd_mk, e_m_carries n hn hI hA hf hT v, bnd_mk, carB_c (q := grp σ rb r) v3]
      by_cases c2 : carB σ d own sn f (grp σ rb r) = true
      · rw [ifp c2, ifn (show ¬ (1 : Int) = 0 by decide), ckp (by omega)]
        have e2 : lrl σ d own sn rb f = r := fsn_eq (by omega) (by rw [c, c2]; rfl) hP
        -- the loop ends at its next step
        unfold f_m_findLeast_91
        rw [w_succ (by omega)]
        cases g' with
        | zero => omega
        | succ g2 =>
          show ∃ N', f_m_findLeast_46 n k6 k14 (lp_m_findLeast_46 n k6 k14 g2) br f ((r + 1 : Nat) : Int) (mset N 29 f r) = _ ∧ _
          have fr : Fr cdR [29] N (mset N 29 f r) := Fr.rf.set rfl
          refine ⟨mset N 29 f r, ?_, fr, fun x hx => ?_⟩
          · unfold f_m_findLeast_46
            rw [Int.toNat_natCast, mg_s]
            by_cases c3 : mset N 29 f (r : Int) 0 1 ≤ ((r + 1 : Nat) : Int)
            · rw [ifp c3]
            · rw [ifn c3, ckp (by omega), ifp (show (0 : Int) ≤ (r : Int) by omega)]
          · rw [e2, mg, ifp rfl]
            by_cases e : x = f
            · rw [ifp e, ifp ⟨e, by omega⟩]
            · rw [ifn e, ifn (fun z => e z.1)]
      · rw [ifn c2, ifp (show (0 : Int) = 0 from rfl)]
        exact skip (by rw [show carB σ d own sn f (grp σ rb r) = false by simpa using c2, Bool.and_false])
    · simp only [Int.toNat_natCast, ifn (show ¬ (0 ≤ (r : Int) ∧ (r : Int) < σ 0 1 ∧ isU (σ 1) (σ 2) r = true) from fun z => c z.2.2), i0]
      exact skip (by rw [show isU (σ 1) (σ 2) r = false by simpa using c, Bool.false_and])
theorem l_m_fl14 (n : Nat) (hn : 3000 ≤ n) (hI : Inv σ) {d : Int} {own sn : Nat → Int} (k6 : Int → Mm → Rr) (s0 : LSt) (hs0 : okS σ s0) : ∀ (k f g : Nat) (N : Mm) (br : Int), f + k = (σ 0 1).toNat → k < g → AgR N σ → RT N σ d own sn → RS N σ (lpas σ d own sn f s0) → br = (if s0.2.2 < (lpas σ d own sn f s0).2.2 then 1 else 0) → ∃ N', lp_m_findLeast_14 n k6 g br f N = k6 (if s0.2.2 < (lpas σ d own sn (σ 0 1).toNat s0).2.2 then 1 else 0) N' ∧ Fr cdR FLL N N' ∧ RS N' σ (lpas σ d own sn (σ 0 1).toNat s0) := by
  have b := hI.1.2.1
  intro k
  induction k with
  | zero =>
    intro f g N br hf hg hA hT hS hbr
    obtain ⟨g', rfl, _⟩ := f_pos hg
    have e : f = (σ 0 1).toNat := by omega
    subst e
    show ∃ N', f_m_findLeast_14 n k6 (lp_m_findLeast_14 n k6 g') br _ N = _ ∧ _
    unfold f_m_findLeast_14
    rw [ifp (by rw [hA 0 1 rfl]; omega)]
    exact ⟨N, by rw [hbr], Fr.rf, hS⟩
  | succ k ih =>
    intro f g N br hf hg hA hT hS hbr
    obtain ⟨g', rfl, hg'⟩ := f_pos hg
    show ∃ N', f_m_findLeast_14 n k6 (lp_m_findLeast_14 n k6 g') br f N = _ ∧ _
    have hp : lpas σ d own sn (f + 1) s0 = lstp σ d own sn f (lpas σ d own sn f s0) := rfl
    have hok := okS_pas (d := d) (own := own) (sn := sn) hI hs0 (x := f) (by omega)
    have hok7 := okS_7 hI hok
    have skip : lpas σ d own sn (f + 1) s0 = lpas σ d own sn f s0 → ∀ N2, Fr cdR FLL N N2 → RS N2 σ (lpas σ d own sn f s0) → ∃ N', f_m_findLeast_131 n k6 (lp_m_findLeast_14 n k6 g') br f N2 = k6 (if s0.2.2 < (lpas σ d own sn (σ 0 1).toNat s0).2.2 then 1 else 0) N' ∧ Fr cdR FLL N N' ∧ RS N' σ (lpas σ d own sn (σ 0 1).toNat s0) := by
      intro e N2 hF2 hS2
      unfold f_m_findLeast_131
      rw [w_succ (by omega)]
      obtain ⟨N3, k1, k2, k3⟩ := ih (f + 1) g' N2 br (by omega) hg' (hA.fr hF2 (by decide)) (hT.fr hF2 (by decide)) (by rw [e]; exact hS2) (by rw [e]; exact hbr)
      exact ⟨N3, k1, hF2.trans k2, k3⟩
    unfold f_m_findLeast_14
    simp only [ckp (show (0 : Int) ≤ (f : Int) ∧ (f : Int) < 16 by omega), Int.toNat_natCast, hA.row (k := 1) (fun _ => rfl)]
    rw [ifn (by rw [hA 0 1 rfl]; omega)]
    by_cases c1 : σ 1 f = 1
    · rw [ifn (by simpa using c1)]
      have hF : isF (σ 1) f = true := by simpa [isF] using c1
      have e29 := hS.1 f (by omega)
      by_cases c2 : (lpas σ d own sn f s0).1 f < 0
      · rw [ifp (by rw [e29, ifp c2]; decide)]
        obtain ⟨N1, g1, g2, g3⟩ := l_m_fl46 n hn hI (d := d) (own := own) (sn := sn) k6 (lp_m_findLeast_14 n k6 g') br (f := f) (by omega) c2 (σ 0 1).toNat 0 n N (by omega) (by omega) hA (hT f (by omega) hF) hS.1 (fun i hi => by omega)
        rw [show ((0 : Nat) : Int) = 0 from rfl] at g1
        rw [g1]
        unfold f_m_findLeast_97
        simp only [ckp (show (0 : Int) ≤ (f : Int) ∧ (f : Int) < 16 by omega), Int.toNat_natCast]
        have e1 := g3 f (by omega)
        by_cases c3 : lrl σ d own sn (lpas σ d own sn f s0).1 f < (σ 0 1).toNat
        · rw [ifp ⟨rfl, c3⟩] at e1
          have h7 := okS_lt hI hok (x := f) (by omega) hF c2
          have e48 : N1 0 48 = ((lpas σ d own sn f s0).2.2 : Int) := (g2 0 48 rfl).trans hS.2.1
          rw [ifp (show 0 ≤ N1 29 f by rw [e1]; omega), e48, ckp (by omega), Int.toNat_natCast, mg_k _ _ _ (show (0 : Nat) ≠ 30 by decide), e48, w_succ (by omega)]
          have e2 : lpas σ d own sn (f + 1) s0 = lcrn f (lrl σ d own sn (lpas σ d own sn f s0).1 f) (lpas σ d own sn f s0) := by
            rw [hp]; unfold lstp; rw [ifp ⟨hF, c2, c3⟩]
          unfold f_m_findLeast_131
          rw [w_succ (by omega)]
          have fr : Fr cdR FLL N (mset (mset N1 30 (lpas σ d own sn f s0).2.2 f) 0 48 ((lpas σ d own sn f s0).2.2 + 1 : Nat)) := ((g2.mono (by decide)).set rfl).set rfl
          obtain ⟨N3, k1, k2, k3⟩ := ih (f + 1) g' (mset (mset N1 30 (lpas σ d own sn f s0).2.2 f) 0 48 ((lpas σ d own sn f s0).2.2 + 1 : Nat)) 1 (by omega) hg' (hA.fr fr (by decide)) (hT.fr fr (by decide)) (by
            rw [e2]
            refine ⟨fun x hx => ?_, by rw [mg_s]; rfl, fun j hj => ?_⟩
            · rw [mg_k _ _ _ (by decide), mg_k _ _ _ (by decide), g3 x hx]
              show _ = if (if x = f then ((lrl σ d own sn (lpas σ d own sn f s0).1 f : Nat) : Int) else (lpas σ d own sn f s0).1 x) < 0 then -1 else (if x = f then ((lrl σ d own sn (lpas σ d own sn f s0).1 f : Nat) : Int) else (lpas σ d own sn f s0).1 x)
              by_cases e : x = f
              · simp only [ifp e, ifp (show x = f ∧ lrl σ d own sn (lpas σ d own sn f s0).1 f < (σ 0 1).toNat from ⟨e, c3⟩)]
                rw [ifn (by omega)]
              · simp only [ifn e, ifn (show ¬ (x = f ∧ lrl σ d own sn (lpas σ d own sn f s0).1 f < (σ 0 1).toNat) from fun z => e z.1)]
                exact hS.1 x hx
            · replace hj : j < (lpas σ d own sn f s0).2.2 + 1 := hj
              rw [mg_k _ _ _ (by decide)]
              show _ = if j = (lpas σ d own sn f s0).2.2 then (f : Int) else (lpas σ d own sn f s0).2.1 j
              by_cases e : j = (lpas σ d own sn f s0).2.2
              · rw [ifp e, e, mg_s]
              · rw [ifn e, mg_j _ _ _ e, g2 30 j rfl]
                exact hS.2.2 j (by omega)) (by
            rw [e2, ifp]
            show s0.2.2 < (lpas σ d own sn f s0).2.2 + 1
            rcases pas_cases σ d own sn s0 f with q | q
            · rw [q]; omega
            · omega)
          exact ⟨N3, k1, fr.trans k2, k3⟩
        · rw [ifn (fun z => c3 z.2)] at e1
          rw [ifn (show ¬ 0 ≤ N1 29 f by rw [e1, e29, ifp c2]; decide)]
          refine skip (by rw [hp]; unfold lstp; rw [ifn (fun z => c3 z.2.2)]) N1 (g2.mono (by decide)) ⟨fun x hx => ?_, (g2 0 48 rfl).trans hS.2.1, fun j hj => (g2 30 j rfl).trans (hS.2.2 j hj)⟩
          rw [g3 x hx, ifn (fun z => c3 z.2)]
          exact hS.1 x hx
      · rw [ifn (by rw [e29, ifn c2]; exact c2)]
        exact skip (by rw [hp]; unfold lstp; rw [ifn (fun z => c2 z.2.1)]) N Fr.rf hS
    · rw [ifp c1]
      have hF : ¬ isF (σ 1) f = true := by simpa [isF] using c1
      exact skip (by rw [hp]; unfold lstp; rw [ifn (fun z => hF z.1)]) N Fr.rf hS
theorem e_m_findLeast {N : Mm} (n : Nat) (hn : 3000 ≤ n) (hI : Inv σ) (hA : AgR N σ) {d : Int} {own sn : Nat → Int} (hT : RT N σ d own sn) : ∃ N', f_m_findLeast n N = some (0, N') ∧ Fr cdR FLL N N' ∧ RS N' σ (lstS σ d own sn) := by
  have b := hI.1.2.1
  have go : ∀ (k i g : Nat) (N : Mm) (br : Int), i + k = 10 → k < g → AgR N σ → RT N σ d own sn → RS N σ (litr σ d own sn i) → (br = 0 → litr σ d own sn (i + 1) = litr σ d own sn i) → (i = 10 → br = 0) → ∃ N', lp_m_findLeast_6 n g br N = some (0, N') ∧ Fr cdR FLL N N' ∧ RS N' σ (lstS σ d own sn) := by
    intro k
    induction k with
    | zero =>
      intro i g N br hi hg hA hT hS hbr h10
      obtain ⟨g', rfl, _⟩ := f_pos hg
      show ∃ N', f_m_findLeast_6 n (lp_m_findLeast_6 n g') br N = _ ∧ _
      unfold f_m_findLeast_6
      have c := h10 (by omega)
      rw [ifp c]
      refine ⟨N, rfl, Fr.rf, ?_⟩
      rw [← itr_lst hI (hbr c)]; exact hS
    | succ k ih =>
      intro i g N br hi hg hA hT hS hbr h10
      obtain ⟨g', rfl, hg'⟩ := f_pos hg
      show ∃ N', f_m_findLeast_6 n (lp_m_findLeast_6 n g') br N = _ ∧ _
      unfold f_m_findLeast_6
      by_cases c : br = 0
      · rw [ifp c]
        refine ⟨N, rfl, Fr.rf, ?_⟩
        rw [← itr_lst hI (hbr c)]; exact hS
      · rw [ifn c]
        obtain ⟨N1, g1, g2, g3⟩ := l_m_fl14 n hn hI (d := d) (own := own) (sn := sn) (lp_m_findLeast_6 n g') (litr σ d own sn i) (okS_itr hI d own sn i) (σ 0 1).toNat 0 n N 0 (by omega) (by omega) hA hT hS (by rw [ifn]; exact Nat.lt_irrefl _)
        rw [show ((0 : Nat) : Int) = 0 from rfl] at g1
        rw [g1]
        have hfix : (if (litr σ d own sn i).2.2 < (lpas σ d own sn (σ 0 1).toNat (litr σ d own sn i)).2.2 then (1 : Int) else 0) = 0 → litr σ d own sn (i + 1 + 1) = litr σ d own sn (i + 1) := by
          intro hz
          have hnot : ¬ (litr σ d own sn i).2.2 < (lpas σ d own sn (σ 0 1).toNat (litr σ d own sn i)).2.2 := by
            intro q
            rw [ifp q] at hz
            cases hz
          rcases pas_cases σ d own sn (litr σ d own sn i) (σ 0 1).toNat with q | q
          · have e : litr σ d own sn (i + 1) = litr σ d own sn i := q
            show lpas σ d own sn (σ 0 1).toNat (litr σ d own sn (i + 1)) = _
            rw [e]; exact e
          · exact absurd q hnot
        obtain ⟨N2, k1, k2, k3⟩ := ih (i + 1) g' N1 (if (litr σ d own sn i).2.2 < (lpas σ d own sn (σ 0 1).toNat (litr σ d own sn i)).2.2 then 1 else 0) (by omega) hg' (hA.fr g2 (by decide)) (hT.fr g2 (by decide)) g3 hfix (by
          intro h9
          have h9' : i = 9 := by omega
          subst h9'
          have e9 : litr σ d own sn 9 = litr σ d own sn 8 := itr_8 hI d own sn
          have e10 : lpas σ d own sn (σ 0 1).toNat (litr σ d own sn 9) = litr σ d own sn 9 := by
            rw [e9]; exact e9
          rw [e10, ifn (Nat.lt_irrefl _)])
        exact ⟨N2, k1, g2.trans k2, k3⟩
  obtain ⟨N1, g1, g2, g3, g4⟩ := e_m_nobodyRules n hn N
  obtain ⟨N2, k1, k2, k3⟩ := go 10 0 n N1 1 (by omega) (by omega) (hA.fr g2 (by decide)) (hT.fr g2 (by decide)) ⟨fun x hx => by rw [g3 x hx]; rfl, g4, fun j hj => absurd hj (Nat.not_lt_zero _)⟩ (fun q => by cases q) (fun q => by cases q)
  refine ⟨N2, ?_, (g2.mono (by decide)).trans k2, k3⟩
  unfold f_m_findLeast
  rw [g1, bnd_mk]
  exact k1
def LSRL : List Nat := [16, 17, 18, 19, 20, 21, 22, 23, 24, 25, 26, 27, 28, 29, 30, 1016, 1017, 1028, 1029, 1030, 1031, 1032, 1033, 1036, 1037, 1038, 1048]
theorem e_m_least {N : Mm} (n : Nat) (hn : 3000 ≤ n) (hI : Inv σ) (hA : AgR N σ) {d : Int} (hd : 0 ≤ d ∧ d ≤ 999) : ∃ N', f_m_least n d N = some (0, N') ∧ Fr cdR LSRL N N' ∧ RT N' σ d (fun s => ow σ s d) (fun s => si σ s d) ∧ RS N' σ (lstS σ d (fun s => ow σ s d) (fun s => si σ s d)) ∧ ∀ s : Nat, (s : Int) < σ 0 3 → N' 22 s = (Wh σ s d).1 ∧ N' 23 s = (Wh σ s d).2 := by
  obtain ⟨N1, g1, g2, g3, g4⟩ := e_m_look n hn hI hA hd
  obtain ⟨N2, k1, k2, k3⟩ := e_m_findLeast n hn hI (hA.fr g2 (by decide)) g3
  refine ⟨N2, ?_, (g2.mono (by decide)).trans (k2.mono (by decide)), g3.fr k2 (by decide), k3, fun s hs => by rw [k2 22 s rfl, k2 23 s rfl]; exact g4 s hs⟩
  unfold f_m_least
  rw [g1, bnd_mk, k1, bnd_mk]
end
