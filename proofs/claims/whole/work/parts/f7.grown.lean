/-! The world with one holder more. -/
def hW (w : Wd) (c : Int) (fam : Int) : Wd := (wD w, wT w, fun k => if k = 500 + (wn w).toNat then wa w 600 else wa w k, wn w + 1, ws9 w, upRw (wK w) (wn w).toNat c, upRw (wF w) (wn w).toNat fam)
section
variable {w : Wd} {M : Mm} {c : Int} {fam : Int}
theorem hW_j {k : Nat} (h : k ≠ 500 + (wn w).toNat) : wa (hW w c fam) k = wa w k := if_neg h
theorem hW_s : wa (hW w c fam) (500 + (wn w).toNat) = wa w 600 := if_pos rfl
/-- which cells there are in the greater world -/
theorem pr_hW {k : Nat} (h0 : 0 ≤ wn w ∧ wn w < 16) : pr LC (hW w c fam) k ↔ pr LC w k ∨ k = 500 + (wn w).toNat := by
  have e : ∀ w' : Wd, pr LC w' k ↔ ((lkfC k).1 ≠ 9 ∧ ((lkfC k).1 = 8 → ((lkfC k).2.1 : Int) < wn w')) := fun _ => Iff.rfl
  rw [e, e]
  have en : wn (hW w c fam) = wn w + 1 := rfl
  rw [en]
  by_cases z : 500 ≤ k ∧ k < 516
  · have el : lkfC k = (8, k - 500, 10) := if_pos z
    rw [el]
    constructor
    · intro q
      have h2 : ((k - 500 : Nat) : Int) < wn w + 1 := q.2 rfl
      by_cases d : k = 500 + (wn w).toNat
      · exact Or.inr d
      · exact Or.inl ⟨show (8 : Nat) ≠ 9 by decide, fun _ => show ((k - 500 : Nat) : Int) < wn w by omega⟩
    · intro q
      refine ⟨show (8 : Nat) ≠ 9 by decide, fun _ => show ((k - 500 : Nat) : Int) < wn w + 1 from ?_⟩
      rcases q with q | q
      · have h2 : ((k - 500 : Nat) : Int) < wn w := q.2 rfl
        omega
      · omega
  · have el : lkfC k = (lklC[k]?).getD (9, 0, 0) := if_neg z
    have hall : (lklC.all fun p => !(p.1 == 8)) = true := by decide +kernel
    have n8 : (lkfC k).1 ≠ 8 := by
      rw [el]
      cases hk : lklC[k]? with
      | none => exact (show (9 : Nat) ≠ 8 by decide)
      | some p =>
        have hp := List.all_eq_true.mp hall p (List.mem_of_getElem? hk)
        show p.1 ≠ 8
        simpa using hp
    constructor
    · intro q; exact Or.inl ⟨q.1, fun h => absurd h n8⟩
    · intro q
      rcases q with q | q
      · exact ⟨q.1, fun h => absurd h n8⟩
      · omega
theorem pr_600 : ¬ pr LC w 600 := fun h => h.1 (by decide +kernel)
theorem pr_hd_of {k : Nat} (d : k ≠ 600) : pr (LHd0 0 0) w k ↔ pr LC w k := by
  unfold pr
  have e : lk (LHd0 0 0) k = lk LC k := if_neg d
  rw [e]
theorem pr_top : ¬ pr LC w (500 + (wn w).toNat) ∨ ¬ (0 ≤ wn w ∧ wn w < 16) := by
  by_cases h0 : 0 ≤ wn w ∧ wn w < 16
  · refine Or.inl fun h => ?_
    have el : lk LC (500 + (wn w).toNat) = (8, 500 + (wn w).toNat - 500, 10) := if_pos ⟨by omega, by omega⟩
    unfold pr at h
    rw [el] at h
    have h2 : ((500 + (wn w).toNat - 500 : Nat) : Int) < wn w := h.2 rfl
    omega
  · exact Or.inr h0
theorem aw_hW (h0 : 0 ≤ wn w ∧ wn w < 16) : Aw LC (hW w c fam) = Aw (LHd0 0 0) w := by
  have ht : ¬ pr LC w (500 + (wn w).toNat) := by
    rcases pr_top (w := w) with h | h
    · exact h
    · exact absurd h0 h
  funext q
  apply propext
  constructor
  · intro ⟨k, h1, h2⟩
    rcases (pr_hW h0).mp h1 with h | h
    · have d : k ≠ 500 + (wn w).toNat := fun d => ht (d ▸ h)
      have d6 : k ≠ 600 := fun d6 => pr_600 (d6 ▸ h)
      rw [hW_j d] at h2
      exact ⟨k, (pr_hd_of d6).mpr h, h2⟩
    · subst h
      rw [hW_s] at h2
      exact ⟨600, (pr_hd_iff 0 0 0 1 600).mpr (pr_hd 0 1), h2⟩
  · intro ⟨k, h1, h2⟩
    by_cases d6 : k = 600
    · subst d6
      exact ⟨500 + (wn w).toNat, (pr_hW h0).mpr (Or.inr rfl), by rw [hW_s]; exact h2⟩
    · have h := (pr_hd_of d6).mp h1
      have d : k ≠ 500 + (wn w).toNat := fun d => ht (d ▸ h)
      exact ⟨k, (pr_hW h0).mpr (Or.inl h), by rw [hW_j d]; exact h2⟩
end
