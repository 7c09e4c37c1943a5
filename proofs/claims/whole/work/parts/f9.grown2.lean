/-! The greater world's cells are apart. -/
theorem ij_hW {w : Wd} {c : Nat} {x fam : Int} (h0 : 0 ≤ wn w ∧ wn w < 16) (hij : ij (LHd c 0) w) : ij LC (hW w x fam) := by
  have ht : ¬ pr LC w (500 + (wn w).toNat) := by
    rcases pr_top (w := w) with h | h
    · exact h
    · exact absurd h0 h
  have up : ∀ {k : Nat}, pr LC w k → pr (LHd c 0) w k ∧ k ≠ 600 ∧ k ≠ 500 + (wn w).toNat := fun {k} h =>
    have d6 : k ≠ 600 := fun d6 => pr_600 (d6 ▸ h)
    ⟨(pr_hd_iff 0 0 c 0 k).mp ((pr_hd_of d6).mpr h), d6, fun d => ht (d ▸ h)⟩
  intro k k' h h' e
  rcases (pr_hW h0).mp h with a | a <;> rcases (pr_hW h0).mp h' with b | b
  · obtain ⟨a1, a2, a3⟩ := up a
    obtain ⟨b1, b2, b3⟩ := up b
    rw [hW_j a3, hW_j b3] at e
    exact hij k k' a1 b1 e
  · obtain ⟨a1, a2, a3⟩ := up a
    rw [b, hW_j a3, hW_s] at e
    exact absurd (hij k 600 a1 (pr_hd c 0) e) a2
  · obtain ⟨b1, b2, b3⟩ := up b
    rw [a, hW_j b3, hW_s] at e
    exact absurd (hij 600 k' (pr_hd c 0) b1 e).symm b2
  · rw [a, b]
