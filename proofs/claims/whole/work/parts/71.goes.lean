/-! The reference reads a text anew (its contract). -/
def GOL : List Nat := [17, 18, 19, 20, 21, 1028, 1029, 1030, 1031, 1032, 1033, 1036, 1037, 1038]
theorem e_m_goes {N σ : Mm} (n : Nat) (hn : 3000 ≤ n) (hI : Inv σ) (hA : AgR N σ) {k : Nat} (hk : (k : Int) < σ 0 18) : ∃ N', f_m_goes n k N = some (1, N') ∧ Fr cdR GOL N N' ∧ (∀ w : Nat, w < 5 → N' 17 w = lwk σ k w) ∧ (∀ w : Nat, w < 4 → 0 ≤ lwk σ k w → N' 18 w = (cAt (CL σ k) (lwk σ k w).toNat).2.1 ∧ (w = 0 ∨ w = 2 → N' 19 w = (cAt (CL σ k) (lwk σ k w).toNat).2.2.1)) ∧ (0 ≤ lwk σ k 4 → N' 0 28 = if evB (N 16) (cAt (CL σ k) (lwk σ k 4).toNat).2.2.2 = true then 1 else 0) := by
  sorry
