/-! all(..): the class. -/
section
variable {σ : Mm} {M N : Mm} {d : Int} {own sn : Nat → Int}
/-- ruler r's own, and the firms of a set -/
def pset (σ : Mm) (r set : Nat) : Nat → Bool := fun h => grp σ (fun _ => -5) r h || (isF (σ 1) h && set.testBit (cn h (isF (σ 1))))
def sfm (σ : Mm) (d : Int) (own sn : Nat → Int) (x set : Nat) (k : Nat) : Int := sm k (fun h => if (isF (σ 1) h && set.testBit (cn h (isF (σ 1)))) = true then Vt σ d own sn x h else 0)
theorem sfm_in (hI : Inv σ) (x set : Nat) {k : Nat} (hk : k ≤ 16) : 0 ≤ sfm σ d own sn x set k ∧ sfm σ d own sn x set k ≤ 15984 := by
  have hg : ∀ h, h < k → 0 ≤ (if (isF (σ 1) h && set.testBit (cn h (isF (σ 1)))) = true then Vt σ d own sn x h else 0) ∧ (if (isF (σ 1) h && set.testBit (cn h (isF (σ 1)))) = true then Vt σ d own sn x h else 0) ≤ 999 := by
    intro h _
    have := Vt_in hI d own sn x h
    split
    · exact this
    · exact ⟨by decide, by decide⟩
  have h1 := sm_nn (fun h hh => (hg h hh).1)
  have h2 := sm_ub (fun h hh => (hg h hh).2)
  unfold sfm
  omega
theorem grp_firm {r h : Nat} (hF : isF (σ 1) h = true) : grp σ (fun _ => -5) r h = false := by
  unfold grp bk
  rw [ifp hF]
  exact decide_eq_false (show ¬ (-5 : Int) = (r : Int) by omega)
theorem pset_sum (x r set : Nat) (k : Nat) : sm k (fun h => if pset σ r set h = true then Vt σ d own sn x h else 0) = bsum σ d own sn (fun _ => -5) x r k + sfm σ d own sn x set k := by
  unfold bsum sfm
  rw [← sm_add]
  refine sm_congr fun i _ => ?_
  unfold pset
  cases hF : isF (σ 1) i with
  | true =>
    rw [grp_firm hF]
    simp
  | false => simp
theorem carB_pset (x r set : Nat) : carB σ d own sn x (pset σ r set) = (decide (tf σ d own sn x < bsum σ d own sn (fun _ => -5) x r (σ 0 1).toNat + sfm σ d own sn x set (σ 0 1).toNat) && (decide (gd σ x d < 0) || pset σ r set (gd σ x d).toNat)) := by
  unfold carB
  rw [pset_sum]
theorem l_S_sets74 (n : Nat) (hn : 3000 ≤ n) (hI : Inv σ) (hC : RelC M σ) (hL : LK M σ d) (hT : TL M σ d own sn) (hF5 : cFN σ ≤ 5) {x r : Nat} (hx : (x : Int) < σ 0 1) (hF : isF (σ 1) x = true) (k40 : Int → Int → Int → Int → Int → Int → Mm → Rr) (g0 : Bool) (hg0 : g0 = (decide (gd σ x d < 0) || grp σ (fun _ => -5) r (gd σ x d).toNat)) (x5 : Int) (hx5 : inR x5) {set : Nat} (hset : set < 32) : ∀ (k h g : Nat) (x8 : Int), h + k = (σ 0 1).toNat → k < g → (x8 = 0 ∨ x8 = 1) → (x8 = 1 ↔ g0 = true ∨ ∃ y : Nat, y < h ∧ isF (σ 1) y = true ∧ set.testBit (cn y (isF (σ 1))) = true ∧ (y : Int) = gd σ x d) → lp_S_setsWithWhich_74 n k40 g x r (gd σ x d) (if g0 = true then 1 else 0) x5 set (bsum σ d own sn (fun _ => -5) x r (σ 0 1).toNat + sfm σ d own sn x set h) x8 (cn h (isF (σ 1))) M = k40 x r (gd σ x d) (if g0 = true then 1 else 0) (if carB σ d own sn x (pset σ r set) = true then ior x5 (ish 1 set) else x5) ((set + 1 : Nat) : Int) M := by
  have bh := hI.1.2.1
  have t := hT x hx hF
  have hbs := bsum_in (d := d) (own := own) (sn := sn) hI (fun _ => -5) x r (k := (σ 0 1).toNat) (by omega)
  have h5 : cn (σ 0 1).toNat (isF (σ 1)) ≤ 5 := hF5
  intro k
  induction k with
  | zero =>
    intro h g x8 hh hg h8 h8i
    obtain ⟨g', rfl, _⟩ := f_pos hg
    have e : h = (σ 0 1).toNat := by omega
    subst e
    show f_S_setsWithWhich_74 n k40 (lp_S_setsWithWhich_74 n k40 g') x r _ _ x5 set _ x8 _ M = _
    have ea : (decide (gd σ x d < 0) || pset σ r set (gd σ x d).toNat) = decide (x8 = 1) := by
      rw [Bool.eq_iff_iff, decide_eq_true_eq, h8i, hg0]
      unfold pset
      simp only [Bool.or_eq_true, decide_eq_true_eq, Bool.and_eq_true]
      constructor
      · rintro (q | q | q)
        · exact Or.inl (Or.inl q)
        · exact Or.inl (Or.inr q)
        · rcases gd_in σ x d with z | z
          · exact Or.inl (Or.inl (by omega))
          · exact Or.inr ⟨(gd σ x d).toNat, by omega, q.1, q.2, by omega⟩
      · rintro ((q | q) | ⟨y, y1, y2, y3, y4⟩)
        · exact Or.inl q
        · exact Or.inr (Or.inl q)
        · rw [← y4, Int.toNat_natCast]
          exact Or.inr (Or.inr ⟨y2, y3⟩)
    unfold f_S_setsWithWhich_74 f_S_setsWithWhich_182 f_S_setsWithWhich_183
    rw [ifp (by rw [hC.1.2.2.1, hI.1.2.2.2.2.2.1]; exact Int.le_refl _), ckp (by omega), Int.toNat_natCast, t.2, carB_pset, ea]
    simp only [w_succ (show set < 2000000000 by omega)]
    by_cases c : bsum σ d own sn (fun _ => -5) x r (σ 0 1).toNat + sfm σ d own sn x set (σ 0 1).toNat ≤ tf σ d own sn x
    · rw [ifp c, decide_eq_false (by omega), Bool.false_and, ior_0 hx5]
      rfl
    · rw [ifn c, decide_eq_true (show tf σ d own sn x < bsum σ d own sn (fun _ => -5) x r (σ 0 1).toNat + sfm σ d own sn x set (σ 0 1).toNat by omega), Bool.true_and]
      rcases h8 with z | z
      · rw [z, ior_0 hx5]; rfl
      · rw [z]; rfl
  | succ k ih =>
    intro h g x8 hh hg h8 h8i
    have hsf := sfm_in (d := d) (own := own) (sn := sn) hI x set (k := h) (by omega)
    have es : sfm σ d own sn x set (h + 1) = sfm σ d own sn x set h + (if (isF (σ 1) h && set.testBit (cn h (isF (σ 1)))) = true then Vt σ d own sn x h else 0) := rfl
    by_cases hFh : isF (σ 1) h = true
    · obtain ⟨g', rfl, hg'⟩ := f_pos hg
      show f_S_setsWithWhich_74 n k40 (lp_S_setsWithWhich_74 n k40 g') x r _ _ x5 set _ x8 _ M = _
      have hlt := cn_lt (p := isF (σ 1)) (show h < (σ 0 1).toNat by omega) hFh
      have h19 := hC.1.2.2.2.2.2.2.2.1 h (by omega) hFh
      have hv := Vt_in hI d own sn x h
      have hbit : bI (set : Int) (cn h (isF (σ 1))) = set.testBit (cn h (isF (σ 1))) := by rw [bI_nat, decide_eq_true (by omega), Bool.true_and]
      unfold f_S_setsWithWhich_74 f_S_setsWithWhich_146 f_S_setsWithWhich_148
      rw [ifn (by rw [hC.1.2.2.1, hI.1.2.2.2.2.2.1]; omega), bit_I (by omega), hbit]
      simp only [w_succ (show cn h (isF (σ 1)) < 2000000000 by omega), ← cn_t hFh]
      by_cases c : set.testBit (cn h (isF (σ 1))) = true
      · rw [ifp c, ifn (show ¬ (1 : Int) ≠ 1 by decide), ckp (by omega), ckp (by omega), Int.toNat_natCast, Int.toNat_natCast, h19, ckp (by omega), Int.toNat_natCast, t.1 h (by omega), w32_s (by omega) (by omega)]
        have I := fun x8' p q => ih (h + 1) g' x8' (by omega) hg' p q
        rw [es, show (isF (σ 1) h && set.testBit (cn h (isF (σ 1)))) = true by rw [hFh, c]; rfl] at I
        simp only [if_true, ← Int.add_assoc] at I
        rcases h8 with z | z
        · subst z
          rw [ifn (show ¬ (0 : Int) ≠ 0 by decide), ckp (by omega)]
          by_cases c2 : (h : Int) = gd σ x d
          · rw [ifn (fun z => z c2)]
            exact I 1 (Or.inr rfl) ⟨fun _ => Or.inr ⟨h, by omega, hFh, c, c2⟩, fun _ => rfl⟩
          · rw [ifp c2]
            refine I 0 (Or.inl rfl) (h8i.trans (or_congr Iff.rfl ⟨fun ⟨y, y1, y2⟩ => ⟨y, by omega, y2⟩, fun ⟨y, y1, y2, y3, y4⟩ => ⟨y, ?_, y2, y3, y4⟩⟩))
            by_cases e : y = h
            · rw [e] at y4; exact absurd y4 c2
            · omega
        · subst z
          rw [ifp (show (1 : Int) ≠ 0 by decide)]
          exact I 1 (Or.inr rfl) ⟨fun _ => (h8i.mp rfl).imp id fun ⟨y, y1, y2⟩ => ⟨y, by omega, y2⟩, fun _ => rfl⟩
      · rw [ifn c, ifp (show (0 : Int) ≠ 1 by decide)]
        have I := ih (h + 1) g' x8 (by omega) hg' h8 (h8i.trans (or_congr Iff.rfl ⟨fun ⟨y, y1, y2⟩ => ⟨y, by omega, y2⟩, fun ⟨y, y1, y2, y3, y4⟩ => ⟨y, by
          by_cases e : y = h
          · rw [e] at y3; exact absurd y3 c
          · omega, y2, y3, y4⟩⟩))
        rw [es, show (isF (σ 1) h && set.testBit (cn h (isF (σ 1)))) = false by rw [show set.testBit (cn h (isF (σ 1))) = false by simpa using c, Bool.and_false]] at I
        rw [ifn (show ¬ (false = true) by decide), Int.add_zero] at I
        exact I
    · have hFf : isF (σ 1) h = false := by simpa using hFh
      have I := ih (h + 1) g x8 (by omega) (by omega) h8 (h8i.trans (or_congr Iff.rfl ⟨fun ⟨y, y1, y2⟩ => ⟨y, by omega, y2⟩, fun ⟨y, y1, y2, y3, y4⟩ => ⟨y, by
          by_cases e : y = h
          · rw [e] at y2; exact absurd y2 hFh
          · omega, y2, y3, y4⟩⟩))
      rw [es, hFf, Bool.false_and, ifn (show ¬ (false = true) by decide), Int.add_zero, cn_f hFf] at I
      exact I
theorem e_S_setsWithWhich (n : Nat) (hn : 3000 ≤ n) (hI : Inv σ) (hC : RelC M σ) (hL : LK M σ d) (hT : TL M σ d own sn) (hB : CBk M σ d own sn (litr σ d own sn 0)) (hF5 : cFN σ ≤ 5) {x r : Nat} (hx : (x : Int) < σ 0 1) (hF : isF (σ 1) x = true) (hr : r < 16) : ∃ v, f_S_setsWithWhich n x r M = some (v, M) ∧ inR v ∧ ∀ i, i < 2 ^ cFN σ → bI v i = carB σ d own sn x (pset σ r i) := by
  have bh := hI.1.2.1
  have hp : (2 : Nat) ^ cFN σ ≤ 2 ^ 5 := Nat.pow_le_pow_right (by decide) hF5
  have m12 : M 1 2 = (cFN σ : Int) := by rw [hC.1.2.2.1, hI.1.2.2.2.2.2.1]; rfl
  have h2 : ish 1 (M 1 2) = ((2 ^ cFN σ : Nat) : Int) := by rw [m12, p2_k _ (by omega)]; simp
  have go : ∀ (g0 : Bool), g0 = (decide (gd σ x d < 0) || grp σ (fun _ => -5) r (gd σ x d).toNat) → ∀ (k set g : Nat) (x5 : Int), set + k = 2 ^ cFN σ → k < g → inR x5 → (∀ i, i < 32 → bI x5 i = (decide (i < set) && carB σ d own sn x (pset σ r i))) → ∃ v, lp_S_setsWithWhich_40 n g x r (gd σ x d) (if g0 = true then 1 else 0) x5 set M = some (v, M) ∧ inR v ∧ ∀ i, i < 2 ^ cFN σ → bI v i = carB σ d own sn x (pset σ r i) := by
    intro g0 hg0 k
    induction k with
    | zero =>
      intro set g x5 hs hg h5 hb
      obtain ⟨g', rfl, _⟩ := f_pos hg
      show ∃ v, f_S_setsWithWhich_40 n (lp_S_setsWithWhich_40 n g') x r _ _ x5 set M = _ ∧ _
      unfold f_S_setsWithWhich_40
      rw [ifp (by rw [h2]; omega)]
      exact ⟨x5, rfl, h5, fun i hi => by rw [hb i (by omega), decide_eq_true (by omega), Bool.true_and]⟩
    | succ k ih =>
      intro set g x5 hs hg h5 hb
      obtain ⟨g', rfl, hg'⟩ := f_pos hg
      show ∃ v, f_S_setsWithWhich_40 n (lp_S_setsWithWhich_40 n g') x r _ _ x5 set M = _ ∧ _
      have hr45 := hB.2.1 x hx hF r hr
      have s := l_S_sets74 n hn hI hC hL hT hF5 hx hF (lp_S_setsWithWhich_40 n g') g0 hg0 x5 h5 (set := set) (by omega) (σ 0 1).toNat 0 n (if g0 = true then 1 else 0) (by omega) (by omega) (by cases g0; exact Or.inl rfl; exact Or.inr rfl) (by cases g0 <;> simp)
      have s' : lp_S_setsWithWhich_74 n (lp_S_setsWithWhich_40 n g') n x r (gd σ x d) (if g0 = true then 1 else 0) x5 set (bsum σ d own sn (fun _ => -5) x r (σ 0 1).toNat + 0) (if g0 = true then 1 else 0) 0 M = _ := s
      unfold f_S_setsWithWhich_40
      rw [ifn (by rw [h2]; omega), ckp (by omega), ckp (by omega), Int.toNat_natCast, Int.toNat_natCast, hr45]
      rw [Int.add_zero] at s'
      have s2 : lp_S_setsWithWhich_74 n (lp_S_setsWithWhich_40 n g') n x r (gd σ x d) (if g0 = true then 1 else 0) x5 set (bsum σ d own sn (litr σ d own sn 0).1 x r (σ 0 1).toNat) (if g0 = true then 1 else 0) 0 M = _ := s'
      rw [s2]
      refine ih (set + 1) g' _ (by omega) hg' ?_ fun i hi => ?_
      · split
        · exact ir_or _ _
        · exact h5
      · by_cases c : carB σ d own sn x (pset σ r set) = true
        · rw [ifp c, bI_or, bI_bit (by omega), hb i hi]
          by_cases e : i = set
          · subst e
            rw [c]; simp
          · rw [decide_eq_false e, Bool.or_false]
            by_cases e2 : i < set
            · rw [decide_eq_true e2, decide_eq_true (show i < set + 1 by omega)]
            · rw [decide_eq_false e2, decide_eq_false (show ¬ i < set + 1 by omega)]
        · rw [ifn c, hb i hi]
          by_cases e : i = set
          · subst e
            rw [show carB σ d own sn x (pset σ r i) = false by simpa using c]; simp
          · by_cases e2 : i < set
            · rw [decide_eq_true e2, decide_eq_true (show i < set + 1 by omega)]
            · rw [decide_eq_false e2, decide_eq_false (show ¬ i < set + 1 by omega)]
  have eG := (hL.2 x hx hF).2
  have start := fun g0 hg0 => go g0 hg0 (2 ^ cFN σ) 0 n 0 (by omega) (by omega) ir_0 (fun i _ => by rw [bI_0]; simp)
  unfold f_S_setsWithWhich f_S_setsWithWhich_32
  rw [ckp (by omega), Int.toNat_natCast, eG]
  rcases gd_in σ x d with c | c
  · rw [ifp (by omega)]
    have := start true (by rw [decide_eq_true (show gd σ x d < 0 by omega)]; rfl)
    exact this
  · rw [ifn (by omega), ckp (by omega), hB.1 _ (show (((gd σ x d).toNat : Nat) : Int) < σ 0 1 by omega)]
    by_cases c2 : bk σ (litr σ d own sn 0).1 (gd σ x d).toNat = (r : Int)
    · rw [ifn (fun z => z c2)]
      have := start true (by
        rw [decide_eq_false (show ¬ gd σ x d < 0 by omega), Bool.false_or]
        exact (decide_eq_true c2).symm)
      exact this
    · rw [ifp c2]
      have := start false (by
        rw [decide_eq_false (show ¬ gd σ x d < 0 by omega), Bool.false_or]
        exact (decide_eq_false c2).symm)
      exact this
/-- the class's table of sets that carry -/
def CAR (M σ : Mm) (d : Int) (own sn : Nat → Int) : Prop := ∀ x : Nat, (x : Int) < σ 0 1 → isF (σ 1) x = true → ∀ r : Nat, (r : Int) < σ 0 1 → isU (σ 1) (σ 2) r = true → ∀ i, i < 2 ^ cFN σ → bI (M (170 + cn x (isF (σ 1))) (cn r (isU (σ 1) (σ 2)))) i = carB σ d own sn x (pset σ r i)
def CRL : List Nat := [170, 171, 172, 173, 174]
theorem CBk_fr {M M' : Mm} {s : LSt} {L : List Nat} (h : CBk M σ d own sn s) (hI : Inv σ) (f : Fr cdC L M M') (hd : (BLL.all fun x => !L.elem x) = true) : CBk M' σ d own sn s := by
  have b := hI.1.2.1
  have g := List.all_eq_true.mp hd
  have e45 : L.elem 45 = false := by simpa using g 45 (by decide)
  have e47 : L.elem 47 = false := by simpa using g 47 (by decide)
  have e3 : L.elem 1313 = false := by simpa using g 1313 (by decide)
  refine ⟨fun y hy => (f 45 y e45).trans (h.1 y hy), fun x hx hF r hr => ?_, (f 3 13 e3).trans h.2.2.1, fun j hj => (f 47 j e47).trans (h.2.2.2 j hj)⟩
  have hm : ∀ x : Nat, x < 16 → 150 + x ∈ BLL := by decide
  have er : M' (150 + x) r = M (150 + x) r := by
    refine f _ _ ?_
    have e : cdC (150 + x) r = 150 + x := by unfold cdC; rw [ifn (by omega)]
    rw [e]
    simpa using g (150 + x) (hm x (by omega))
  rw [er]; exact h.2.1 x hx hF r hr
theorem elC {a : Nat} (ha : a < 5) (j : Nat) : CRL.elem (cdC (170 + a) j) = true := by
  have e : cdC (170 + a) j = 170 + a := by unfold cdC; rw [ifn (by omega)]
  rw [e]
  have : ∀ a, a < 5 → CRL.elem (170 + a) = true := by decide
  exact this a ha
/-- one firm's row of the table -/
def CAx (M σ : Mm) (d : Int) (own sn : Nat → Int) (x : Nat) (r : Nat) : Prop := ∀ i, i < 2 ^ cFN σ → bI (M (170 + cn x (isF (σ 1))) (cn r (isU (σ 1) (σ 2)))) i = carB σ d own sn x (pset σ r i)
theorem l_S_lc34 (n : Nat) (hn : 3000 ≤ n) (hI : Inv σ) (hF5 : cFN σ ≤ 5) (hR4 : cRN σ ≤ 4) {x : Nat} (hx : (x : Int) < σ 0 1) (hF : isF (σ 1) x = true) (k16 : Int → Mm → Rr) : ∀ (k r g : Nat) (M : Mm), r + k = (σ 0 1).toNat → k < g → RelC M σ → LK M σ d → TL M σ d own sn → CBk M σ d own sn (litr σ d own sn 0) → (∀ y : Nat, y < r → isU (σ 1) (σ 2) y = true → CAx M σ d own sn x y) → ∃ M', lp_S_listCarrying_34 n k16 g (cn x (isF (σ 1))) (cn r (isU (σ 1) (σ 2))) M = k16 ((cn x (isF (σ 1)) + 1 : Nat) : Int) M' ∧ Fr cdC CRL M M' ∧ (∀ k j, k ≠ 170 + cn x (isF (σ 1)) → M' k j = M k j) ∧ (∀ y : Nat, (y : Int) < σ 0 1 → isU (σ 1) (σ 2) y = true → CAx M' σ d own sn x y) := by
  have bh := hI.1.2.1
  have hlx := cn_lt (p := isF (σ 1)) (show x < (σ 0 1).toNat by omega) hF
  have h5 : cn (σ 0 1).toNat (isF (σ 1)) ≤ 5 := hF5
  have h4 : cn (σ 0 1).toNat (isU (σ 1) (σ 2)) ≤ 4 := hR4
  intro k
  induction k with
  | zero =>
    intro r g M hr hg hC hL hT hB hP
    obtain ⟨g', rfl, _⟩ := f_pos hg
    have e : r = (σ 0 1).toNat := by omega
    subst e
    show ∃ M', f_S_listCarrying_34 n k16 (lp_S_listCarrying_34 n k16 g') _ _ M = _ ∧ _
    unfold f_S_listCarrying_34 f_S_listCarrying_86
    rw [ifp (by rw [hC.1.2.2.2.1]; exact Int.le_refl _), w_succ (by omega)]
    exact ⟨M, rfl, Fr.rf, fun _ _ _ => rfl, fun y hy hU => hP y (by omega) hU⟩
  | succ k ih =>
    intro r g M hr hg hC hL hT hB hP
    by_cases hU : isU (σ 1) (σ 2) r = true
    · obtain ⟨g', rfl, hg'⟩ := f_pos hg
      show ∃ M', f_S_listCarrying_34 n k16 (lp_S_listCarrying_34 n k16 g') _ _ M = _ ∧ _
      have hlt := cn_lt (p := isU (σ 1) (σ 2)) (show r < (σ 0 1).toNat by omega) hU
      obtain ⟨v, v1, v2, v3⟩ := e_S_setsWithWhich n hn hI hC hL hT hB hF5 hx hF (r := r) (by omega)
      unfold f_S_listCarrying_34
      rw [ifn (by rw [hC.1.2.2.2.1]; omega), ifn (by omega), ckp (by omega), ckp (by omega), ckp (by omega), Int.toNat_natCast, Int.toNat_natCast, hC.1.2.2.2.2.2.2.2.1 x hx hF, hC.1.2.2.2.2.2.2.2.2.1 r (by omega) hU, v1, bnd_mk, ckp (by omega), w_succ (by omega), ← cn_t hU]
      have fr : Fr cdC CRL M (mset M (170 + cn x (isF (σ 1))) (cn r (isU (σ 1) (σ 2))) v) := Fr.rf.set (elC (by omega) _)
      obtain ⟨M2, k1, k2, k3, k4⟩ := ih (r + 1) g' (mset M (170 + cn x (isF (σ 1))) (cn r (isU (σ 1) (σ 2))) v) (by omega) hg' (hC.fr fr (by decide)) (hL.fr hI fr (by decide)) (hT.fr hI fr (by decide)) (CBk_fr hB hI fr (by decide)) (fun y hy hU2 i hi => by
        by_cases e : y = r
        · rw [e, mg_s]; exact v3 i hi
        · rw [mg_j _ _ _ (fun q => e (cn_inj hU2 hU q))]; exact hP y (by omega) hU2 i hi)
      exact ⟨M2, k1, fr.trans k2, fun a j ha => by rw [k3 a j ha, mg_k _ _ _ ha], k4⟩
    · have e : cn (r + 1) (isU (σ 1) (σ 2)) = cn r (isU (σ 1) (σ 2)) := cn_f (by simpa using hU)
      have := ih (r + 1) g M (by omega) (by omega) hC hL hT hB (fun y hy hU2 => by
        by_cases e2 : y = r
        · rw [e2] at hU2; exact absurd hU2 hU
        · exact hP y (by omega) hU2)
      rw [e] at this
      exact this
theorem l_S_lc16 (n : Nat) (hn : 3000 ≤ n) (hI : Inv σ) (hF5 : cFN σ ≤ 5) (hR4 : cRN σ ≤ 4) : ∀ (k h g : Nat) (M : Mm), h + k = (σ 0 1).toNat → k < g → RelC M σ → LK M σ d → TL M σ d own sn → CBk M σ d own sn (litr σ d own sn 0) → (∀ x : Nat, x < h → isF (σ 1) x = true → ∀ y : Nat, (y : Int) < σ 0 1 → isU (σ 1) (σ 2) y = true → CAx M σ d own sn x y) → ∃ M', lp_S_listCarrying_16 n g (cn h (isF (σ 1))) M = some (0, M') ∧ Fr cdC CRL M M' ∧ (∀ x : Nat, (x : Int) < σ 0 1 → isF (σ 1) x = true → ∀ y : Nat, (y : Int) < σ 0 1 → isU (σ 1) (σ 2) y = true → CAx M' σ d own sn x y) := by
  have bh := hI.1.2.1
  have h5 : cn (σ 0 1).toNat (isF (σ 1)) ≤ 5 := hF5
  intro k
  induction k with
  | zero =>
    intro h g M hh hg hC hL hT hB hP
    obtain ⟨g', rfl, _⟩ := f_pos hg
    have e : h = (σ 0 1).toNat := by omega
    subst e
    show ∃ M', f_S_listCarrying_16 n (lp_S_listCarrying_16 n g') _ M = _ ∧ _
    unfold f_S_listCarrying_16
    rw [ifp (by rw [hC.1.2.2.1, hI.1.2.2.2.2.2.1]; exact Int.le_refl _)]
    exact ⟨M, rfl, Fr.rf, fun x hx hF => hP x (by omega) hF⟩
  | succ k ih =>
    intro h g M hh hg hC hL hT hB hP
    by_cases hF : isF (σ 1) h = true
    · obtain ⟨g', rfl, hg'⟩ := f_pos hg
      show ∃ M', f_S_listCarrying_16 n (lp_S_listCarrying_16 n g') _ M = _ ∧ _
      have hlt := cn_lt (p := isF (σ 1)) (show h < (σ 0 1).toNat by omega) hF
      obtain ⟨M1, z1, z2, z3, z4⟩ := l_S_lc34 n hn hI hF5 hR4 (x := h) (by omega) hF (lp_S_listCarrying_16 n g') (σ 0 1).toNat 0 n M (by omega) (by omega) hC hL hT hB (fun y hy => absurd hy (Nat.not_lt_zero y))
      have z1' : lp_S_listCarrying_34 n (lp_S_listCarrying_16 n g') n (cn h (isF (σ 1))) 0 M = _ := z1
      unfold f_S_listCarrying_16
      rw [ifn (by rw [hC.1.2.2.1, hI.1.2.2.2.2.2.1]; omega), ifn (by omega), z1', ← cn_t hF]
      obtain ⟨M2, k1, k2, k3⟩ := ih (h + 1) g' M1 (by omega) hg' (hC.fr z2 (by decide)) (hL.fr hI z2 (by decide)) (hT.fr hI z2 (by decide)) (CBk_fr hB hI z2 (by decide)) (fun x hx hF2 y hy hU i hi => by
        by_cases e : x = h
        · rw [e]; exact z4 y hy hU i hi
        · rw [z3 _ _ (fun q => e (cn_inj hF2 hF (by omega)))]; exact hP x (by omega) hF2 y hy hU i hi)
      exact ⟨M2, k1, z2.trans k2, k3⟩
    · have e : cn (h + 1) (isF (σ 1)) = cn h (isF (σ 1)) := cn_f (by simpa using hF)
      have := ih (h + 1) g M (by omega) (by omega) hC hL hT hB (fun x hx hF2 => by
        by_cases e2 : x = h
        · rw [e2] at hF2; exact absurd hF2 hF
        · exact hP x (by omega) hF2)
      rw [e] at this
      exact this
end
