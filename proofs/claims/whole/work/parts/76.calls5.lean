/-! sold, may: LEAST over owners as supposed. -/
section
variable {σ : Mm} {M N : Mm}
theorem ior_0 {x : Int} (h : inR x) : ior x 0 = x := by
  refine bI_ext (ir_or _ _) h fun k _ => ?_
  rw [bI_or, bI_0, Bool.or_false]
/-- the firms below k that have a mark, as bits -/
def fbits (σ : Mm) (p : Nat → Bool) : Nat → Int
  | 0 => 0
  | k + 1 => if isF (σ 1) k && p k then ior (fbits σ p k) (ish 1 k) else fbits σ p k
theorem fbits_ir (σ : Mm) (p : Nat → Bool) : ∀ k : Nat, inR (fbits σ p k)
  | 0 => ir_0
  | k + 1 => by
    unfold fbits
    split
    · exact ir_or _ _
    · exact fbits_ir σ p k
theorem both_again (n : Nat) (hn : 3000 ≤ n) (hI : Inv σ) (hA : AgR N σ) (hC : RelC M σ) {d : Int} (hd : 0 ≤ d ∧ d ≤ 999) {own sn : Nat → Int} (hO : okO σ own sn) (hL : LK M σ d) (hW : OW M σ d own sn) (hR : RWo N σ own sn) : ∃ M1 N1 N2, f_U_least n M = some (0, M1) ∧ f_m_findVotes n d N = some (0, N1) ∧ f_m_findLeast n N1 = some (0, N2) ∧ Fr cdC LSTL M M1 ∧ Fr cdR FVL N N1 ∧ Fr cdR FLL N1 N2 ∧ AgR N2 σ ∧ RelC M1 σ ∧ CBk M1 σ d own sn (lstS σ d own sn) ∧ RS N2 σ (lstS σ d own sn) ∧ okS σ (lstS σ d own sn) := by
  obtain ⟨M1, p1, p2, p3, p4⟩ := e_U_least n hn hI hC hL hO hW
  obtain ⟨N1, g1, g2, g3⟩ := e_m_findVotes n hn hI hA hd hO hR
  have hA1 := hA.fr g2 (by decide)
  obtain ⟨N2, k1, k2, k3⟩ := e_m_findLeast n hn hI hA1 g3
  exact ⟨M1, N1, N2, p1, g1, k1, p2, g2, k2, hA1.fr k2 (by decide), hC.fr p2 (by decide), p4, k3, okS_itr hI d _ _ 8⟩
/-- one place changed -/
def upI (g : Nat → Int) (s : Nat) (v : Int) : Nat → Int := fun y => if y = s then v else g y
theorem upI_s (g : Nat → Int) (s : Nat) (v : Int) : upI g s v s = v := ifp rfl
theorem upI_n (g : Nat → Int) {s y : Nat} (v : Int) (h : y ≠ s) : upI g s v y = g y := ifn h
theorem rb_same {s1 s2 : LSt} (h1 : okS σ s1) (h2 : okS σ s2) (x : Nat) : ((if s1.1 x < 0 then (-1 : Int) else s1.1 x) = (if s2.1 x < 0 then -1 else s2.1 x)) ↔ s1.1 x = s2.1 x := by
  rcases h1.2 x with a | a <;> rcases h2.2 x with b | b
  · rw [a, b]; simp
  · rw [a, ifp (show (-5 : Int) < 0 by decide), ifn (show ¬ s2.1 x < 0 by omega)]; omega
  · rw [b, ifp (show (-5 : Int) < 0 by decide), ifn (show ¬ s1.1 x < 0 by omega)]; omega
  · rw [ifn (show ¬ s2.1 x < 0 by omega), ifn (show ¬ s1.1 x < 0 by omega)]
theorem l_S_changed (n : Nat) (hI : Inv σ) {r1 r2 : Nat → Int} : ∀ (k h g : Nat) (M : Mm), h + k = (σ 0 1).toNat → k < g → RelC M σ → (∀ x : Nat, (x : Int) < σ 0 1 → isF (σ 1) x = true → M 45 x = r2 x ∧ M 53 x = r1 x) → lp_S_changedWithout_60 n g (fbits σ (fun x => decide (r2 x ≠ r1 x)) h) (cn h (isF (σ 1))) M = some (fbits σ (fun x => decide (r2 x ≠ r1 x)) (σ 0 1).toNat, M) := by
  have b := hI.1.2.1
  have bf := hI.1.2.2.2.2.2
  intro k
  induction k with
  | zero =>
    intro h g M hh hg hC hP
    obtain ⟨g', rfl, _⟩ := f_pos hg
    have e : h = (σ 0 1).toNat := by omega
    subst e
    show f_S_changedWithout_60 n (lp_S_changedWithout_60 n g') _ _ M = _
    unfold f_S_changedWithout_60
    rw [ifp (by rw [hC.1.2.2.1]; omega)]
  | succ k ih =>
    intro h g M hh hg hC hP
    by_cases hF : isF (σ 1) h = true
    · obtain ⟨g', rfl, hg'⟩ := f_pos hg
      show f_S_changedWithout_60 n (lp_S_changedWithout_60 n g') _ _ M = _
      have h19 := hC.1.2.2.2.2.2.2.2.1 h (by omega) hF
      have hlt := cn_lt (p := isF (σ 1)) (show h < (σ 0 1).toNat by omega) hF
      have p := hP h (by omega) hF
      have I := ih (h + 1) g' M (by omega) (by omega) hC hP
      have e : fbits σ (fun x => decide (r2 x ≠ r1 x)) (h + 1) = if isF (σ 1) h && decide (r2 h ≠ r1 h) then ior (fbits σ (fun x => decide (r2 x ≠ r1 x)) h) (ish 1 h) else fbits σ (fun x => decide (r2 x ≠ r1 x)) h := rfl
      unfold f_S_changedWithout_60 f_S_changedWithout_111
      simp only [ckp (show (0 : Int) ≤ (cn h (isF (σ 1)) : Int) ∧ (cn h (isF (σ 1)) : Int) < 7 by omega), Int.toNat_natCast, h19, ckp (show (0 : Int) ≤ (h : Int) ∧ (h : Int) < 16 by omega), p.1, p.2, w_succ (show cn h (isF (σ 1)) < 2000000000 by omega)]
      rw [ifn (by rw [hC.1.2.2.1]; omega), ← cn_t hF]
      by_cases c : r2 h = r1 h
      · rw [ifp c, ior_0 (fbits_ir σ _ h)]
        rw [e, hF, decide_eq_false (by simpa using c)] at I
        exact I
      · rw [ifn c]
        rw [e, hF, decide_eq_true (show r2 h ≠ r1 h from c)] at I
        exact I
    · have e : cn (h + 1) (isF (σ 1)) = cn h (isF (σ 1)) := cn_f (by simpa using hF)
      have e2 : fbits σ (fun x => decide (r2 x ≠ r1 x)) (h + 1) = fbits σ (fun x => decide (r2 x ≠ r1 x)) h := by
        show (if isF (σ 1) h && decide (r2 h ≠ r1 h) then _ else _) = _
        rw [show isF (σ 1) h = false by simpa using hF]; rfl
      have := ih (h + 1) g M (by omega) (by omega) hC hP
      rw [e, e2] at this
      exact this
theorem l_m_sold67 (n : Nat) (hI : Inv σ) {q : Nat → Bool} : ∀ (k h g : Nat) (N : Mm), h + k = (σ 0 1).toNat → k < g → AgR N σ → (∀ x : Nat, (x : Int) < σ 0 1 → isF (σ 1) x = true → (N 29 x ≠ N 39 x ↔ q x = true)) → lp_m_sold_67 n g (fbits σ q h) h N = some (fbits σ q (σ 0 1).toNat, N) := by
  have b := hI.1.2.1
  intro k
  induction k with
  | zero =>
    intro h g N hh hg hA hP
    obtain ⟨g', rfl, _⟩ := f_pos hg
    have e : h = (σ 0 1).toNat := by omega
    subst e
    show f_m_sold_67 n (lp_m_sold_67 n g') _ _ N = _
    unfold f_m_sold_67
    rw [ifp (by rw [hA 0 1 rfl]; omega)]
  | succ k ih =>
    intro h g N hh hg hA hP
    obtain ⟨g', rfl, hg'⟩ := f_pos hg
    show f_m_sold_67 n (lp_m_sold_67 n g') _ h N = _
    have I := ih (h + 1) g' N (by omega) hg' hA hP
    have e : fbits σ q (h + 1) = if isF (σ 1) h && q h then ior (fbits σ q h) (ish 1 h) else fbits σ q h := rfl
    unfold f_m_sold_67 f_m_sold_107 f_m_sold_108
    simp only [ckp (show (0 : Int) ≤ (h : Int) ∧ (h : Int) < 16 by omega), Int.toNat_natCast, hA.row (k := 1) (fun _ => rfl), w_succ (show h < 2000000000 by omega), ior_0 (fbits_ir σ q h)]
    rw [ifn (by rw [hA 0 1 rfl]; omega)]
    by_cases c : σ 1 h = 1
    · rw [ifn (by simpa using c)]
      have p := hP h (by omega) (isF_of c)
      by_cases c2 : N 29 h = N 39 h
      · have qf : q h = false := by
          cases e9 : q h with
          | false => rfl
          | true => exact absurd c2 (p.mpr e9)
        rw [ifp c2]
        rw [e, qf, Bool.and_false] at I
        exact I
      · rw [ifn c2]
        rw [e, isF_of c, p.mp c2] at I
        exact I
    · rw [ifp c]
      rw [e, show isF (σ 1) h = false from decide_eq_false c] at I
      exact I
theorem q_sold (n : Nat) (hn : 3000 ≤ n) (s : Int) (hJ : J M N) : Sim (f_W_sold n s M) (f_m_sold n s N) := by
  have hJ0 := hJ
  obtain ⟨σ, hI, hA, hC⟩ := hJ
  have bs := hI.2.1.1
  have bt := hI.1.1
  have b := hI.1.2.1
  have a3 : N 0 3 = σ 0 3 := hA 0 3 rfl
  have a0 : N 0 0 = σ 0 0 := hA 0 0 rfl
  have m10 : M 1 0 = σ 0 0 := hC.1.1
  unfold f_W_sold f_m_sold
  simp only [e_R_isShare, e_m_isShare n N s (by rw [a3]; exact bs), bnd_mk, a3, hC.2.1.1, bnd_id, a0]
  by_cases c : 0 ≤ s ∧ s < σ 0 3
  · obtain ⟨t, rfl⟩ := nat_of c.1
    obtain ⟨M1, M2, N1, e1, e2, e3, hJ', hA1, hC2, hB, hR, hL, hT, hRT, hok, hW, h25, h22⟩ := both_least n hn hI hA hC (d := σ 0 0) bt
    simp only [ifp c, i1, n1, e3, bnd_mk]
    -- the reference keeps who ruled
    have cp : ∀ (k i g : Nat) (N : Mm), i + k = 16 → k < g → (∀ x, x < i → N 39 x = N1 29 x) → Fr cdR [39] N1 N → ∃ N', lp_m_sold_20 n g t i N = (bnd (f_m_findVotes n (σ 0 0) (mset N' 22 t (-1))) (fun r4 M4 => bnd (f_m_findLeast n M4) (fun r5 M5 => lp_m_sold_67 n n 0 0 M5))) ∧ (∀ x, x < 16 → N' 39 x = N1 29 x) ∧ Fr cdR [39] N1 N' := by
      intro k
      induction k with
      | zero =>
        intro i g N hi hg hP hF
        obtain ⟨g', rfl, _⟩ := f_pos hg
        show ∃ N', f_m_sold_20 n (lp_m_sold_20 n g') t i N = _ ∧ _
        unfold f_m_sold_20
        rw [ifp (by omega), ckp (by omega), Int.toNat_natCast, mg_k _ _ _ (show (0 : Nat) ≠ 22 by decide), hF 0 0 rfl, hA1 0 0 rfl]
        exact ⟨N, rfl, fun x hx => hP x (by omega), hF⟩
      | succ k ih =>
        intro i g N hi hg hP hF
        obtain ⟨g', rfl, hg'⟩ := f_pos hg
        show ∃ N', f_m_sold_20 n (lp_m_sold_20 n g') t i N = _ ∧ _
        unfold f_m_sold_20
        rw [ifn (by omega), ckp (by omega), ckp (by omega), Int.toNat_natCast, w_succ (by omega)]
        refine ih (i + 1) g' (mset N 39 i (N 29 i)) (by omega) hg' (fun x hx => ?_) (hF.set rfl)
        by_cases e : x = i
        · rw [e, mg_s]; exact hF 29 i rfl
        · rw [mg_j _ _ _ e]; exact hP x (by omega)
    obtain ⟨N2, u1, u2, u3⟩ := cp 16 0 n N1 (by omega) (by omega) (fun x hx => by omega) Fr.rf
    rw [show ((0 : Nat) : Int) = 0 from rfl] at u1
    rw [u1]
    -- the class keeps who ruled, and supposes
    unfold f_S_changedWithout
    rw [m10, e1, bnd_mk, e2, bnd_mk, ckp (by decide)]
    have f53 : Fr cdC [53] M2 (mcpy M2 45 (0 : Int).toNat 53 (0 : Int).toNat (16 : Int).toNat) := Fr.rowset Fr.rf (fun _ => rfl)
    have hC3 := hC2.fr f53 (by decide)
    obtain ⟨M3, s1, s2, s3, s4, s5⟩ := e_U_suppose n hn hI hC3 bt (hL.fr hI f53 (by decide)) c.2 (-5) (Or.inl (by decide))
    have hC4 := hC3.fr s2 (by decide)
    have hL4 := (hL.fr hI f53 (by decide)).fr hI s2 (by decide)
    have hW3 := hW.fr f53 rfl rfl
    have hW4 : OW M3 σ (σ 0 0) (upI (fun s => ow σ s (σ 0 0)) t (-5)) (upI (fun s => si σ s (σ 0 0)) t (σ 0 0)) := by
      intro x hx
      by_cases e : x = t
      · rw [e, upI_s, upI_s, s3, s4]; exact ⟨rfl, rfl⟩
      · rw [upI_n _ _ e, upI_n _ _ e, (s5 x e).1, (s5 x e).2]; exact hW3 x hx
    have hO4 : okO σ (upI (fun s => ow σ s (σ 0 0)) t (-5)) (upI (fun s => si σ s (σ 0 0)) t (σ 0 0)) := by
      intro x hx
      by_cases e : x = t
      · rw [e, upI_s]; exact Or.inl (by decide)
      · rw [upI_n _ _ e, upI_n _ _ e]; exact okO_day hI (σ 0 0) x hx
    have hR4 : RWo (mset N2 22 t (-1)) σ (upI (fun s => ow σ s (σ 0 0)) t (-5)) (upI (fun s => si σ s (σ 0 0)) t (σ 0 0)) := by
      intro x hx
      by_cases e : x = t
      · rw [e, upI_s, mg_s]; exact Or.inr ⟨by decide, by decide⟩
      · rw [upI_n _ _ e, upI_n _ _ e, mg_j _ _ _ e, mg_k _ _ _ (by decide), u3 22 x rfl, u3 23 x rfl]
        exact RWo_day hI h22 x hx
    have hA2 : AgR (mset N2 22 t (-1)) σ := hA1.fr ((u3.mono (L' := [22, 39]) (by decide)).set rfl) (by decide)
    obtain ⟨M5, N3, N4, v1, v2, v3, v4, v5, v6, hA4, hC5, hB5, hR5, hok5⟩ := both_again n hn hI hA2 hC4 bt hO4 hL4 hW4 hR4
    rw [s1, bnd_mk, v1, bnd_mk, v2, bnd_mk, v3, bnd_mk]
    have rr := rb_same hok hok5
    have w1 := l_S_changed n hI (r1 := (lstS σ (σ 0 0) (fun s => ow σ s (σ 0 0)) (fun s => si σ s (σ 0 0))).1) (r2 := (lstS σ (σ 0 0) (upI (fun s => ow σ s (σ 0 0)) t (-5)) (upI (fun s => si σ s (σ 0 0)) t (σ 0 0))).1) (σ 0 1).toNat 0 n M5 (by omega) (by omega) hC5 (by
      intro x hx hF
      constructor
      · rw [hB5.1 x hx]; unfold bk; rw [ifp hF]
      · rw [v4 53 x rfl, s2 53 x rfl]
        show mcpy M2 45 0 53 0 16 53 x = _
        unfold mcpy
        rw [mr_eq]
        show (if 0 ≤ x ∧ x < 0 + 16 then M2 45 (0 + (x - 0)) else M2 53 x) = _
        rw [ifp (by omega), show 0 + (x - 0) = x by omega, hB.1 x hx]; unfold bk; rw [ifp hF])
    have w2 := l_m_sold67 n hI (q := fun x => decide ((lstS σ (σ 0 0) (upI (fun s => ow σ s (σ 0 0)) t (-5)) (upI (fun s => si σ s (σ 0 0)) t (σ 0 0))).1 x ≠ (lstS σ (σ 0 0) (fun s => ow σ s (σ 0 0)) (fun s => si σ s (σ 0 0))).1 x)) (σ 0 1).toNat 0 n N4 (by omega) (by omega) hA4 (by
      intro x hx hF
      rw [hR5.1 x (by omega), v6 39 x rfl, v5 39 x rfl, mg_k _ _ _ (by decide), u2 x (by omega), hR.1 x (by omega), decide_eq_true_eq]
      constructor
      · intro z z2; exact z ((rr x).mpr z2.symm).symm
      · intro z z2; exact z ((rr x).mp z2.symm).symm)
    have w1' : lp_S_changedWithout_60 n n 0 0 M5 = _ := w1
    have w2' : lp_m_sold_67 n n 0 0 N4 = _ := w2
    rw [w1', w2']
    exact ⟨_, M5, N4, rfl, rfl, σ, hI, hA4, hC5⟩
  · simp only [ifn c, i0, n0]; exact Sim.same hJ0 _
theorem q_may (n : Nat) (hn : 3000 ≤ n) (r f h w : Int) (hJ : J M N) : Sim (f_W_may n r f h w M) (f_m_may n r f h w N) := by
  have hJ0 := hJ
  obtain ⟨σ, hI, hA, hC⟩ := hJ
  have bs := hI.2.1.1
  have bt := hI.1.1
  have b := hI.1.2.1
  have a1 : N 0 1 = σ 0 1 := hA 0 1 rfl
  have a0 : N 0 0 = σ 0 0 := hA 0 0 rfl
  have m10 : M 1 0 = σ 0 0 := hC.1.1
  unfold f_W_may f_m_may
  simp only [e_R_isRulerU n hI hC r, e_m_isRuler n hn hI hA r, e_R_isFirm n M f (by rw [hC.1.2.1]; exact b.2), e_m_isFirm n N f (by rw [a1]; exact b), e_m_in, bnd_mk, a1, hC.1.2.1, hC.1.2.2.2.2.2.1, hA.row (k := 1) (fun _ => rfl), a0]
  by_cases c : 0 ≤ r ∧ r < σ 0 1 ∧ isU (σ 1) (σ 2) r.toNat = true
  · by_cases c2 : 0 ≤ f ∧ f < σ 0 1 ∧ σ 1 f.toNat = 1
    · obtain ⟨x, rfl⟩ := nat_of c2.1
      have hF : isF (σ 1) x = true := isF_of (by have := c2.2.2; rw [Int.toNat_natCast] at this; exact this)
      by_cases c3 : 0 ≤ w ∧ w ≤ 1
      · by_cases c4 : 0 ≤ h ∧ h ≤ 12
        · simp only [ifp c, ifp c2, ifp c3, ifp c4, i1, n1, ifn (show ¬ w < 0 by omega), ifp c3.2, ifn (show ¬ h < 0 by omega), ifp c4.2]
          obtain ⟨N1, g1, g2, g3⟩ := e_m_layOut n hn hI hA (σ 0 0)
          have hA1 := hA.fr g2 (by decide)
          rw [g1, bnd_mk]
          obtain ⟨M1, m1, m2, m3, m4, m5⟩ := e_U_look n hn hI hC bt
          have hC1 := hC.fr m2 (by decide)
          -- to whom the hidden ones go
          have go : ∀ hx : Int, hx = (if w = 0 then r else -5) → Sim (f_W_may_66 n r x h hx M) (lp_m_may_54 n n r x h w 0 N1) := by
            intro hx hxd
            have own' : ∃ own sn : Nat → Int, (∀ s, own s = if σ 5 s < h ∧ ow σ s (σ 0 0) ≠ hx then hx else ow σ s (σ 0 0)) ∧ (∀ s, sn s = if σ 5 s < h ∧ ow σ s (σ 0 0) ≠ hx then σ 0 0 else si σ s (σ 0 0)) := ⟨_, _, fun _ => rfl, fun _ => rfl⟩
            obtain ⟨own, sn, eo, en⟩ := own'
            have hx1 : hx < 0 ∨ (0 ≤ hx ∧ hx < σ 0 1) := by
              by_cases z : w = 0
              · rw [ifp z] at hxd; omega
              · rw [ifn z] at hxd; omega
            have hO : okO σ own sn := by
              intro s hs
              rw [eo, en]
              by_cases z : σ 5 s < h ∧ ow σ s (σ 0 0) ≠ hx
              · rw [ifp z, ifp z]; omega
              · rw [ifn z, ifn z]; exact okO_day hI (σ 0 0) s hs
            -- the class
            have cl : ∀ (k s g : Nat) (M2 : Mm), s + k = (σ 0 3).toNat → k < g → RelC M2 σ → LK M2 σ (σ 0 0) → (∀ y : Nat, (y : Int) < σ 0 3 → M2 25 y = ow σ y (σ 0 0)) → (∀ y : Nat, (y : Int) < σ 0 3 → M2 39 y = (if y < s then own y else ow σ y (σ 0 0)) ∧ M2 40 y = wt σ (σ 0 0) (if y < s then own y else ow σ y (σ 0 0)) (if y < s then sn y else si σ y (σ 0 0)) y) → ∃ M3, lp_S_rulesHidden_17 n g r x h hx s M2 = bnd (f_U_least n M3) (fun r3 M3 => ck (0 ≤ (x : Int) ∧ (x : Int) < 16) (if (M3 45 (x : Int).toNat) ≠ r then some (0, M3) else (some (1, M3)))) ∧ RelC M3 σ ∧ LK M3 σ (σ 0 0) ∧ OW M3 σ (σ 0 0) own sn := by
              intro k
              induction k with
              | zero =>
                intro s g M2 hs hg hC2 hL2 h25 hP
                obtain ⟨g', rfl, _⟩ := f_pos hg
                show ∃ M3, f_S_rulesHidden_17 n (lp_S_rulesHidden_17 n g') r x h hx s M2 = _ ∧ _
                unfold f_S_rulesHidden_17
                rw [ifp (by rw [hC2.2.1.1]; omega)]
                refine ⟨M2, rfl, hC2, hL2, fun y hy => ?_⟩
                have := hP y hy
                simp only [ifp (show y < s by omega)] at this
                exact this
              | succ k ih =>
                intro s g M2 hs hg hC2 hL2 h25 hP
                obtain ⟨g', rfl, hg'⟩ := f_pos hg
                show ∃ M3, f_S_rulesHidden_17 n (lp_S_rulesHidden_17 n g') r x h hx s M2 = _ ∧ _
                have m22 := hC2.2.1.2.2.2.1
                have skip : ¬ (σ 5 s < h ∧ ow σ s (σ 0 0) ≠ hx) → ∃ M3, f_S_rulesHidden_69 n (lp_S_rulesHidden_17 n g') r x h hx s M2 = bnd (f_U_least n M3) (fun r3 M3 => ck (0 ≤ (x : Int) ∧ (x : Int) < 16) (if (M3 45 (x : Int).toNat) ≠ r then some (0, M3) else (some (1, M3)))) ∧ RelC M3 σ ∧ LK M3 σ (σ 0 0) ∧ OW M3 σ (σ 0 0) own sn := by
                  intro z
                  unfold f_S_rulesHidden_69
                  rw [w_succ (by omega)]
                  refine ih (s + 1) g' M2 (by omega) hg' hC2 hL2 h25 fun y hy => ?_
                  have := hP y hy
                  by_cases e : y = s
                  · subst e
                    simp only [ifn (Nat.lt_irrefl y)] at this
                    simp only [ifp (Nat.lt_succ_self y), eo, en, ifn z]
                    exact this
                  · by_cases e2 : y < s
                    · simp only [ifp e2] at this
                      simp only [ifp (show y < s + 1 by omega)]
                      exact this
                    · simp only [ifn e2] at this
                      simp only [ifn (show ¬ y < s + 1 by omega)]
                      exact this
                unfold f_S_rulesHidden_17
                simp only [ckp (show (0 : Int) ≤ (s : Int) ∧ (s : Int) < 40 by omega), Int.toNat_natCast, m22, h25 s (by omega)]
                rw [ifn (by rw [hC2.2.1.1]; omega)]
                by_cases z1 : h ≤ σ 5 s
                · rw [ifp z1]; exact skip (fun z => by omega)
                · rw [ifn z1]
                  by_cases z2 : ow σ s (σ 0 0) = hx
                  · rw [ifp z2]; exact skip (fun z => z.2 z2)
                  · rw [ifn z2]
                    obtain ⟨M3, s1, s2, s3, s4, s5⟩ := e_U_suppose n hn hI hC2 bt hL2 (s := s) (by omega) hx hx1
                    rw [s1, bnd_mk]
                    unfold f_S_rulesHidden_69
                    rw [w_succ (by omega)]
                    refine ih (s + 1) g' M3 (by omega) hg' (hC2.fr s2 (by decide)) (hL2.fr hI s2 (by decide)) (fun y hy => by rw [s2 25 y rfl]; exact h25 y hy) fun y hy => ?_
                    by_cases e : y = s
                    · subst e
                      simp only [ifp (Nat.lt_succ_self y), eo, en, ifp (show σ 5 y < h ∧ ow σ y (σ 0 0) ≠ hx from ⟨by omega, z2⟩)]
                      exact ⟨s3, s4⟩
                    · rw [(s5 y e).1, (s5 y e).2]
                      have := hP y hy
                      by_cases e2 : y < s
                      · simp only [ifp e2] at this
                        simp only [ifp (show y < s + 1 by omega)]
                        exact this
                      · simp only [ifn e2] at this
                        simp only [ifn (show ¬ y < s + 1 by omega)]
                        exact this
            obtain ⟨M3, k1, hC3, hL3, hW3⟩ := cl (σ 0 3).toNat 0 n M1 (by omega) (by omega) hC1 m3 (fun y hy => (m5 y hy).1) (fun y hy => by simp only [ifn (Nat.not_lt_zero y)]; exact m4 y hy)
            rw [show ((0 : Nat) : Int) = 0 from rfl] at k1
            -- the reference
            have rf' : ∀ (k s g : Nat) (N2 : Mm), s + k = (σ 0 3).toNat → k < g → AgR N2 σ → (∀ y : Nat, y < s → (N2 22 y = own y ∧ N2 23 y = sn y ∧ 0 ≤ own y) ∨ (N2 22 y < 0 ∧ own y < 0)) → (∀ y : Nat, s ≤ y → (y : Int) < σ 0 3 → N2 22 y = (Wh σ y (σ 0 0)).1 ∧ N2 23 y = (Wh σ y (σ 0 0)).2) → ∃ N3, lp_m_may_54 n g r x h w s N2 = bnd (f_m_findVotes n (σ 0 0) N3) (fun r4 M4 => bnd (f_m_findLeast n M4) (fun r5 M5 => ck (0 ≤ (x : Int) ∧ (x : Int) < 16) (if (M5 29 (x : Int).toNat) ≠ r then some (0, M5) else (some (1, M5))))) ∧ AgR N3 σ ∧ RWo N3 σ own sn := by
              intro k
              induction k with
              | zero =>
                intro s g N2 hs hg hA2 hP hQ
                obtain ⟨g', rfl, _⟩ := f_pos hg
                show ∃ N3, f_m_may_54 n (lp_m_may_54 n g') r x h w s N2 = _ ∧ _
                unfold f_m_may_54
                rw [ifp (by rw [hA2 0 3 rfl]; omega), hA2 0 0 rfl]
                exact ⟨N2, rfl, hA2, fun y hy => hP y (by omega)⟩
              | succ k ih =>
                intro s g N2 hs hg hA2 hP hQ
                obtain ⟨g', rfl, hg'⟩ := f_pos hg
                show ∃ N3, f_m_may_54 n (lp_m_may_54 n g') r x h w s N2 = _ ∧ _
                have q := hQ s (Nat.le_refl _) (by omega)
                have o := ow_in hI (s := s) (by omega) (σ 0 0)
                have skip : ¬ (σ 5 s < h ∧ ow σ s (σ 0 0) ≠ hx) → ∃ N3, f_m_may_121 n (lp_m_may_54 n g') r x h w s N2 = bnd (f_m_findVotes n (σ 0 0) N3) (fun r4 M4 => bnd (f_m_findLeast n M4) (fun r5 M5 => ck (0 ≤ (x : Int) ∧ (x : Int) < 16) (if (M5 29 (x : Int).toNat) ≠ r then some (0, M5) else (some (1, M5))))) ∧ AgR N3 σ ∧ RWo N3 σ own sn := by
                  intro z
                  unfold f_m_may_121
                  rw [w_succ (by omega)]
                  refine ih (s + 1) g' N2 (by omega) hg' hA2 (fun y hy => ?_) (fun y hy hy2 => hQ y (by omega) hy2)
                  by_cases e : y = s
                  · subst e
                    rw [eo, en, ifn z, ifn z, q.1, q.2]
                    omega
                  · exact hP y (by omega)
                have put : ∀ v, ((v = own s ∧ σ 0 0 = sn s ∧ 0 ≤ own s) ∨ (v < 0 ∧ own s < 0)) → ∃ N3, f_m_may_109 n (lp_m_may_54 n g') r x h w s s v N2 = bnd (f_m_findVotes n (σ 0 0) N3) (fun r4 M4 => bnd (f_m_findLeast n M4) (fun r5 M5 => ck (0 ≤ (x : Int) ∧ (x : Int) < 16) (if (M5 29 (x : Int).toNat) ≠ r then some (0, M5) else (some (1, M5))))) ∧ AgR N3 σ ∧ RWo N3 σ own sn := by
                  intro v hv
                  unfold f_m_may_109 f_m_may_121
                  rw [ckp (by omega), ckp (by omega), Int.toNat_natCast, mg_k _ _ _ (show (0 : Nat) ≠ 22 by decide), hA2 0 0 rfl, w_succ (by omega)]
                  have fr : Fr cdR [22, 23] N2 (mset (mset N2 22 s v) 23 s (σ 0 0)) := (Fr.rf.set rfl).set rfl
                  refine ih (s + 1) g' (mset (mset N2 22 s v) 23 s (σ 0 0)) (by omega) hg' (hA2.fr fr (by decide)) (fun y hy => ?_) (fun y hy hy2 => ?_)
                  · by_cases e : y = s
                    · subst e
                      rw [mg_k _ _ _ (by decide), mg_s, mg_s]
                      exact hv
                    · rw [mg_k _ _ _ (by decide), mg_j _ _ _ e, mg_j _ _ _ e, mg_k _ _ _ (by decide)]
                      exact hP y (by omega)
                  · rw [mg_k _ _ _ (by decide), mg_j _ _ _ (by omega), mg_j _ _ _ (by omega), mg_k _ _ _ (by decide)]
                    exact hQ y (by omega) hy2
                unfold f_m_may_54 f_m_may_93
                simp only [ckp (show (0 : Int) ≤ (s : Int) ∧ (s : Int) < 40 by omega), Int.toNat_natCast, hA2.row (k := 5) (fun _ => rfl)]
                rw [ifn (by rw [hA2 0 3 rfl]; omega)]
                by_cases z1 : h ≤ σ 5 s
                · rw [ifp z1]; exact skip (fun z => by omega)
                · rw [ifn z1]
                  by_cases zw : w = 0
                  · rw [ifp zw] at hxd
                    rw [ifn (show ¬ w ≠ 0 by omega), ifn (show ¬ w ≠ 0 by omega)]
                    by_cases z2 : (Wh σ s (σ 0 0)).1 = r
                    · rw [ifn (show ¬ N2 22 s ≠ r by rw [q.1]; simpa using z2)]; exact skip (fun z => z.2 (by omega))
                    · rw [ifp (show N2 22 s ≠ r by rw [q.1]; exact z2)]
                      refine put r (Or.inl ?_)
                      rw [eo, en, ifp (show σ 5 s < h ∧ ow σ s (σ 0 0) ≠ hx from ⟨by omega, by omega⟩), ifp (show σ 5 s < h ∧ ow σ s (σ 0 0) ≠ hx from ⟨by omega, by omega⟩)]
                      exact ⟨by omega, rfl, by omega⟩
                  · rw [ifn zw] at hxd
                    rw [ifp (show w ≠ 0 from zw), ifp (show w ≠ 0 from zw)]
                    refine put (-1) (Or.inr ⟨by decide, ?_⟩)
                    rw [eo]
                    by_cases z2 : σ 5 s < h ∧ ow σ s (σ 0 0) ≠ hx
                    · rw [ifp z2]; omega
                    · rw [ifn z2]; omega
            obtain ⟨N3, k2, hA3, hR3⟩ := rf' (σ 0 3).toNat 0 n N1 (by omega) (by omega) hA1 (fun y hy => absurd hy (Nat.not_lt_zero y)) (fun y _ hy => g3 y hy)
            rw [show ((0 : Nat) : Int) = 0 from rfl] at k2
            obtain ⟨M5, N4, N5, v1, v2, v3, v4, v5, v6, hA5, hC5, hB5, hR5, hok5⟩ := both_again n hn hI hA3 hC3 bt hO hL3 hW3 hR3
            unfold f_W_may_66 f_S_rulesHidden
            rw [m10, m1, bnd_mk, k1, v1, bnd_mk, k2, v2, bnd_mk, v3, bnd_mk, ckp (by omega), ckp (by omega), Int.toNat_natCast, hR5.1 x (by omega), hB5.1 x c2.2.1, show bk σ (lstS σ (σ 0 0) own sn).1 x = (lstS σ (σ 0 0) own sn).1 x by unfold bk; rw [ifp hF]]
            have hJ' : J M5 N5 := ⟨σ, hI, hA5, hC5⟩
            by_cases z : (lstS σ (σ 0 0) own sn).1 x = r
            · rw [ifn (by simpa using z), z, ifn (show ¬ r < 0 by omega), ifn (show ¬ r ≠ r from fun q => q rfl), bnd_mk]
              exact Sim.same hJ' 1
            · rw [ifp (show (lstS σ (σ 0 0) own sn).1 x ≠ r from z), bnd_mk, ifp (show (if (lstS σ (σ 0 0) own sn).1 x < 0 then -1 else (lstS σ (σ 0 0) own sn).1 x) ≠ r by
                rcases hok5.2 x with q | q
                · rw [q, ifp (by decide)]; omega
                · rw [ifn (by omega)]; exact z)]
              exact Sim.same hJ' 0
          by_cases zw : w = 0
          · rw [ifn (show ¬ w ≠ 0 by omega)]; exact go r (by rw [ifp zw])
          · rw [ifp (show w ≠ 0 from zw)]; exact go (-5) (by rw [ifn zw])
        · simp only [ifp c, ifp c2, ifp c3, ifn c4, i1, n1, n0, ifn (show ¬ w < 0 by omega), ifp c3.2]
          by_cases z : h < 0
          · rw [ifp z]; exact Sim.same hJ0 _
          · rw [ifn z, ifn (show ¬ h ≤ 12 by omega)]; exact Sim.same hJ0 _
      · simp only [ifp c, ifp c2, ifn c3, i1, n0]
        by_cases z : w < 0
        · rw [ifp z]; exact Sim.same hJ0 _
        · rw [ifn z, ifn (show ¬ w ≤ 1 by omega)]; exact Sim.same hJ0 _
    · simp only [ifp c, ifn c2, i1, i0]; exact Sim.same hJ0 _
  · simp only [ifn c, i0]; exact Sim.same hJ0 _
end
