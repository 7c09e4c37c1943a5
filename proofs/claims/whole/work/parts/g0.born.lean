/-! A holder is born: from the layout with the new object to the class's own, in the world with one more. -/
theorem KXG.nar {A B : Nat → Prop} {w : Wd} {U : State} (h : KXG A w U) (hAB : ∀ q, B q → A q) : KXG B w U := by
  obtain ⟨h1, h2, h3, h4, h5⟩ := h
  exact ⟨h1.narrow hAB, h2, h3.narrow hAB, h4.narrow hAB, h5⟩
theorem tb_all : ∀ i, i < 210 → ((lkfC i).1 = 9 ∨ ((lkfC i).1 ≤ 7 ∧ ((lkfC i).1 = 4 → 6 ≤ (lkfC i).2.1 ∧ (lkfC i).2.1 < 12) ∧ ((lkfC i).1 = 5 ∨ (lkfC i).1 = 6 → (lkfC i).2.2 + (lkfC i).2.1 ≤ 500) ∧ ((lkfC i).1 = 7 → i = 16))) := by decide +kernel
theorem tb_far {k : Nat} (h : 210 ≤ k) (h5 : ¬ (500 ≤ k ∧ k < 516)) : lkfC k = (9, 0, 0) := by
  have el : lkfC k = (lklC[k]?).getD (9, 0, 0) := if_neg h5
  have hl : lklC.length ≤ 210 := by decide +kernel
  rw [el, List.getElem?_eq_none (Nat.le_trans hl h)]
  rfl
theorem tb_ff : ∀ c, c < 12 → ∀ j, j < 20 → (((lffC c)[j]?).getD (0, 0)).1 = 1 → (((lffC c)[j]?).getD (0, 0)).2 < 500 := by decide +kernel
theorem tb_fl : ∀ c, c < 12 → (lffC c).length ≤ 20 := by decide +kernel
theorem fvs_cg {a a' : Nat → Nat} {r r' : Nat → Int} {l : List (Nat × Nat)} (h : ∀ j p, l[j]? = some p → fv a r j p = fv a' r' j p) : fvs a r l = fvs a' r' l := by
  apply List.ext_getElem?
  intro j
  rw [fvs_at, fvs_at]
  cases hl : l[j]? with
  | none => rfl
  | some p => exact congrArg some (h j p hl)
section
variable {w : Wd} {M M' : Mm} {c : Nat} {fam x : Int}
theorem lff_hW (hn : 0 ≤ wn w) {b : Nat} (hb : b < 12) (r : Nat → Int) : fvs (wa (hW w x fam)) r (lffC b) = fvs (wa w) r (lffC b) := by
  refine fvs_cg fun j p hj => ?_
  have hj2 : j < 20 := Nat.lt_of_lt_of_le (lt_len hj) (tb_fl b hb)
  have h1 := tb_ff b hb j hj2
  rw [hj] at h1
  have h1 : p.1 = 1 → p.2 < 500 := h1
  unfold fv
  by_cases d : p.1 = 1
  · have h2 := h1 d
    rw [if_pos d, if_pos d, hW_j (by omega)]
  · rw [if_neg d, if_neg d]
/-- an old cell, in the greater world -/
theorem at_hW {k : Nat} {H : Heap} (hn : 0 ≤ wn w ∧ wn w < 16) (h9 : (lkfC k).1 ≠ 9) (h8 : (lkfC k).1 = 8 → ((lkfC k).2.1 : Int) < wn w) (h16 : k ≠ 16) (h6 : k ≠ 600) (hr : M' k = M k) (h : va_at (wD w) clsC (wa w k, eO (LHd c 1) w M k) H) : va_at (wD w) clsC (wa w k, eO LC (hW w x fam) M' k) H := by
  have e1 : lk (LHd c 1) k = lkfC k := if_neg h6
  have e2 : lk LC k = lkfC k := rfl
  by_cases z : 500 ≤ k ∧ k < 516
  · obtain ⟨i, hi⟩ : ∃ i : Nat, k = 500 + i := ⟨k - 500, by omega⟩
    have el : lkfC k = (8, i, 10) := by
      have e0 : lkfC k = (8, k - 500, 10) := if_pos z
      rw [e0, hi, Nat.add_sub_cancel_left]
    have hlt : (i : Int) < wn w := by
      have h8 := h8 (by rw [el])
      rw [el] at h8
      exact h8
    unfold eO at h ⊢
    rw [e1, el] at h
    rw [e2, el]
    have hne : i ≠ (wn w).toNat := by omega
    have a1 : wK (hW w x fam) i = wK w i := upRw_j hne
    have a2 : wF (hW w x fam) i = wF w i := upRw_j hne
    have a3 : wa (hW w x fam) 10 = wa w 10 := hW_j (by omega)
    show va_at (wD w) clsC (wa w k, .inr ((wK (hW w x fam) i).toNat, [.int (i32 (i : Int)), .int (i32 (wF (hW w x fam) i)), .ref (wa (hW w x fam) 10)])) H
    rw [a1, a2, a3]
    exact h
  · have hk : k < 210 := by
      rcases Nat.lt_or_ge k 210 with q | q
      · exact q
      · exact absurd (by rw [tb_far q z]) h9
    have T := tb_all k hk
    unfold eO at h ⊢
    rw [e1] at h
    rw [e2]
    rcases hp : lkfC k with ⟨a, b, d⟩
    rw [hp] at h h9 T
    have h9 : a ≠ 9 := h9
    have T : a = 9 ∨ (a ≤ 7 ∧ (a = 4 → 6 ≤ b ∧ b < 12) ∧ (a = 5 ∨ a = 6 → d + b ≤ 500) ∧ (a = 7 → k = 16)) := T
    have T := T.resolve_left h9
    have ha : a = 0 ∨ a = 1 ∨ a = 2 ∨ a = 3 ∨ a = 4 ∨ a = 5 ∨ a = 6 ∨ a = 7 := by omega
    rcases ha with rfl | rfl | rfl | rfl | rfl | rfl | rfl | rfl
    · show H[wa w k]? = some (vp_cell (wT w 0) (b, .inl (fun j => i32 (M' k j))))
      rw [hr]; exact h
    · show H[wa w k]? = some (vp_cell (wT w 1) (b, .inl (fun j => i32 (M' k j))))
      rw [hr]; exact h
    · show H[wa w k]? = some (vp_cell (wT w 2) (b, .inr (.inl (fun j => i64 (M' k j)))))
      rw [hr]; exact h
    · show H[wa w k]? = some (vp_cell (wT w 3) (b, .inl (fun j => i32 (M' k j))))
      rw [hr]; exact h
    · have hb := T.2.1 rfl
      show va_at (wD w) clsC (wa w k, .inr (b, fvs (wa (hW w x fam)) (M' k) (lffC b))) H
      rw [hr, lff_hW hn.1 hb.2]
      have h : va_at (wD w) clsC (wa w k, .inr (b, fvs (wa w) (M k) (lHf 1 b))) H := h
      have e3 : lHf 1 b = lffC b := if_neg (by omega)
      rw [e3] at h
      exact h
    · have hb := T.2.2.1 (Or.inl rfl)
      show H[wa w k]? = some (vp_cell (wT w 4) (b, .inr (.inr (.inr (.inr (fun j => some (wa (hW w x fam) (d + j))))))))
      rw [refs_cg (g := fun j => some (wa w (d + j))) (fun j hj => by rw [hW_j (by omega)])]
      exact h
    · have hb := T.2.2.1 (Or.inr rfl)
      show H[wa w k]? = some (vp_cell (wT w 5) (b, .inr (.inr (.inr (.inr (fun j => some (wa (hW w x fam) (d + j))))))))
      rw [refs_cg (g := fun j => some (wa w (d + j))) (fun j hj => by rw [hW_j (by omega)])]
      exact h
    · exact absurd (T.2.2.2 rfl) h16
theorem tO_hd {k j : Nat} (h6 : k ≠ 600) (s : Nat) : tO (LHd c s) k j = tO LC k j := by
  have e1 : lk (LHd c s) k = lkfC k := if_neg h6
  have e2 : lk LC k = lkfC k := rfl
  unfold tO
  rw [e1, e2]
  by_cases g : (lkfC k).1 = 4
  · have g2 : ¬ (lkfC k).2.1 < 6 := by
      by_cases z : 500 ≤ k ∧ k < 516
      · have el : lkfC k = (8, k - 500, 10) := if_pos z
        rw [el] at g
        exact absurd (show (8 : Nat) = 4 from g) (by decide)
      · have hk : k < 210 := by
          rcases Nat.lt_or_ge k 210 with q | q
          · exact q
          · rw [tb_far q z] at g
            exact absurd (show (9 : Nat) = 4 from g) (by decide)
        rcases tb_all k hk with T | T
        · omega
        · have := T.2.1 g
          omega
    have e3 : lf (LHd c s) (lkfC k).2.1 = lf LC (lkfC k).2.1 := if_neg g2
    rw [e3]
  · split <;> first | rfl | (rename_i z; exact absurd z g)
theorem tO_600 (j : Nat) : tO LC 600 j = 0 := rfl
theorem bornM_k {n : Nat} {k : Nat} (h1 : k ≠ 16) (h2 : k ≠ 900) (h3 : k ≠ 901) : bornM M n x fam k = M k := by
  unfold bornM
  rw [mg_k _ _ _ h3, mg_k _ _ _ h2, mg_k _ _ _ h1]
theorem rp_born (hc : c < 6) (hn : 0 ≤ wn w ∧ wn w < 16) (hij : ij (LHd c 0) w) {H H1 : Heap} (hP : Rp (LHd c 1) w M H) (h600 : M 600 0 = wn w) (h601 : M 600 1 = fam) (hf : inR fam) (hM : ∀ k, k ≠ 600 → M' k = M k) (hM6 : ∀ j, inR (M' 600 j)) (oq : ∀ q : Nat, q ≠ wa w 16 → H1[q]? = H[q]?)
    (he : H1[wa w 16]? = some (vp_cell (wT w 6) (16, .inr (.inr (.inr (.inr (fun j => if j = (wn w).toNat then some (wa w 600) else if (j : Int) < wn w then some (wa w (500 + j)) else none))))))) : Rp LC (hW w (c : Int) fam) (bornM M' (wn w).toNat (c : Int) fam) H1 := by
  have hp16 : pr (LHd c 0) w 16 := ⟨show (7 : Nat) ≠ 9 by decide, fun q => absurd (show (7 : Nat) = 8 from q) (by decide)⟩
  have n6 : wa w 600 ≠ wa w 16 := fun q => absurd (hij 600 16 (pr_hd c 0) hp16 q) (by decide)
  refine ⟨fun k hk => ?_, fun k j => ?_, ?_, ?_, ?_, trivial⟩
  · rcases (pr_hW hn).mp hk with h | h
    · have d6 : k ≠ 600 := fun d6 => pr_600 (d6 ▸ h)
      have hp1 : pr (LHd c 1) w k := (pr_hd_iff 0 0 c 1 k).mp ((pr_hd_of d6).mpr h)
      have hp0 : pr (LHd c 0) w k := (pr_hd_iff 0 0 c 0 k).mp ((pr_hd_of d6).mpr h)
      have dn : k ≠ 500 + (wn w).toNat := fun d => by
        rcases pr_top (w := w) with q | q
        · exact q (d ▸ h)
        · exact q hn
      rw [hW_j dn]
      by_cases d16 : k = 16
      · subst d16
        show H1[wa w 16]? = some (vp_cell (wT w 6) (16, .inr (.inr (.inr (.inr (fun j => if (j : Int) < wn w + 1 then some (wa (hW w (c : Int) fam) (500 + j)) else none))))))
        rw [he]
        refine congrArg some (refs_cg fun j hj => ?_)
        by_cases d : j = (wn w).toNat
        · rw [if_pos d, if_pos (by omega), d, hW_s]
        · rw [if_neg d, hW_j (by omega)]
          by_cases d2 : (j : Int) < wn w
          · rw [if_pos d2, if_pos (by omega)]
          · rw [if_neg d2, if_neg (by omega)]
      · have n9 : k ≠ 900 := fun q => by subst q; exact h.1 (by decide +kernel)
        have n91 : k ≠ 901 := fun q => by subst q; exact h.1 (by decide +kernel)
        exact at_hW hn h.1 h.2 d16 d6 ((bornM_k d16 n9 n91).trans (hM k d6)) ((hP.1 k hp1).kept (oq _ (fun q => d16 (hij k 16 hp0 hp16 q))))
    · subst h
      have el : lk LC (500 + (wn w).toNat) = (8, (wn w).toNat, 10) := by
        have : lk LC (500 + (wn w).toNat) = (8, 500 + (wn w).toNat - 500, 10) := if_pos ⟨by omega, by omega⟩
        rw [this, Nat.add_sub_cancel_left]
      have a1 : wK (hW w (c : Int) fam) (wn w).toNat = (c : Int) := upRw_s _ _ _
      have a2 : wF (hW w (c : Int) fam) (wn w).toNat = fam := upRw_s _ _ _
      have a3 : wa (hW w (c : Int) fam) 10 = wa w 10 := hW_j (by omega)
      unfold eO
      rw [el, hW_s]
      show va_at (wD w) clsC (wa w 600, .inr ((wK (hW w (c : Int) fam) (wn w).toNat).toNat, [.int (i32 (((wn w).toNat : Nat) : Int)), .int (i32 (wF (hW w (c : Int) fam) (wn w).toNat)), .ref (wa (hW w (c : Int) fam) 10)])) H1
      rw [a1, a2, a3, Int.toNat_natCast]
      have h := (rp_obj hP (lkH_600 c 1)).kept (oq _ n6)
      rw [lf_hd hc] at h
      have e5 : fvs (wa w) (M 600) (LHf 1) = [.int (i32 (M 600 0)), .int (i32 (M 600 1)), .ref (wa w 10)] := rfl
      rw [e5, h600, h601] at h
      rw [Int.toNat_of_nonneg hn.1]
      exact h
  · by_cases d6 : k = 600
    · subst d6
      rw [tO_600, bornM_k (by decide) (by decide) (by decide)]
      exact hM6 j
    · by_cases d16 : k = 16
      · subst d16
        have e : bornM M' (wn w).toNat (c : Int) fam 16 j = if j = 0 then w32 ((((wn w).toNat : Nat) : Int) + 1) else M' 16 j := by
          unfold bornM
          rw [mg_k _ _ _ (by decide), mg_k _ _ _ (by decide), mg, if_pos rfl]
        rw [e]
        show inR _
        split
        · exact ir_w _
        · rw [hM 16 (by decide)]
          have := hP.2.1 16 j
          rw [tO_hd (by decide)] at this
          exact this
      · by_cases d9 : k = 900
        · subst d9
          have e : bornM M' (wn w).toNat (c : Int) fam 900 j = if j = (wn w).toNat then (c : Int) else M' 900 j := by
            unfold bornM
            rw [mg_k _ _ _ (by decide), mg, if_pos rfl, mg_k _ _ _ (by decide)]
          rw [e]
          show inR _
          split
          · exact ⟨by omega, by omega⟩
          · rw [hM 900 (by decide)]
            have := hP.2.1 900 j
            rw [tO_hd (by decide)] at this
            exact this
        · by_cases d91 : k = 901
          · subst d91
            have e : bornM M' (wn w).toNat (c : Int) fam 901 j = if j = (wn w).toNat then fam else M' 901 j := by
              unfold bornM
              rw [mg, if_pos rfl, mg_k _ _ _ (by decide), mg_k _ _ _ (by decide)]
            rw [e]
            show inR _
            split
            · exact hf
            · rw [hM 901 (by decide)]
              have := hP.2.1 901 j
              rw [tO_hd (by decide)] at this
              exact this
          · rw [bornM_k d16 d9 d91, hM k d6]
            have := hP.2.1 k j
            rw [tO_hd d6] at this
            exact this
  · show bornM M' (wn w).toNat (c : Int) fam 16 0 = wn w + 1
    unfold bornM
    rw [mg_k _ _ _ (by decide), mg_k _ _ _ (by decide), mg_s, Int.toNat_of_nonneg hn.1]
    exact w32_s (by omega) (by omega)
  · show bornM M' (wn w).toNat (c : Int) fam 900 = upRw (wK w) (wn w).toNat (c : Int)
    unfold bornM
    rw [mg_k _ _ _ (by decide), mg_up, mg_k _ _ _ (by decide), hM 900 (by decide), hP.2.2.2.1]
  · show bornM M' (wn w).toNat (c : Int) fam 901 = upRw (wF w) (wn w).toNat fam
    unfold bornM
    rw [mg_up, mg_k _ _ _ (by decide), mg_k _ _ _ (by decide), hM 901 (by decide), hP.2.2.2.2.1]
end
