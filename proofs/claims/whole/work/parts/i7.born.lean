/-! The two memories at the start. -/
def MB : Mm := mfil Z0 13 6 (-1)
def NB : Mm := mset (mset (mset (mset (mset (mset (mset (mset Z0 0 16 (-1)) 0 17 (-1)) 47 0 (-1)) 47 1 (-1)) 47 2 (-1)) 47 3 (-1)) 47 4 (-1)) 47 5 (-1)
theorem NB_z {k : Nat} (h0 : k ≠ 0) (h1 : k ≠ 47) : NB k = fun _ => 0 := by
  unfold NB
  rw [mg_k _ _ _ h1, mg_k _ _ _ h1, mg_k _ _ _ h1, mg_k _ _ _ h1, mg_k _ _ _ h1, mg_k _ _ _ h1, mg_k _ _ _ h0, mg_k _ _ _ h0]
  rfl
theorem NB_0 {j : Nat} (h0 : j ≠ 16) (h1 : j ≠ 17) : NB 0 j = 0 := by
  unfold NB
  rw [mg_k _ _ _ (by decide), mg_k _ _ _ (by decide), mg_k _ _ _ (by decide), mg_k _ _ _ (by decide), mg_k _ _ _ (by decide), mg_k _ _ _ (by decide), mg_j _ _ _ h1, mg_j _ _ _ h0]
  rfl
theorem NB_47 (j : Nat) : NB 47 j = if j < 6 then -1 else 0 := by
  unfold NB
  rw [mg, if_pos rfl, mg, if_pos rfl, mg, if_pos rfl, mg, if_pos rfl, mg, if_pos rfl, mg, if_pos rfl, mg_k _ _ _ (by decide), mg_k _ _ _ (by decide)]
  show (if j = 5 then (-1 : Int) else if j = 4 then -1 else if j = 3 then -1 else if j = 2 then -1 else if j = 1 then -1 else if j = 0 then -1 else 0) = _
  repeat (first | split | omega | rfl)
theorem MB_z {k : Nat} (h : k ≠ 13) : MB k = fun _ => 0 := by
  unfold MB
  rw [mfil_k _ _ _ h]
  rfl
theorem MB_13 : MB 13 = NB 47 := by
  funext j
  rw [NB_47]
  unfold MB
  by_cases h : j < 6
  · rw [mfil_in _ _ _ _ h, if_pos h]
  · rw [mfil_o _ _ _ _ h, if_neg h]; rfl
theorem J_born : J MB NB := by
  refine ⟨NB, ⟨?_, ?_, ?_, ?_, ?_⟩, fun _ _ _ => rfl, ⟨?_, ?_, ?_, ?_, ?_, ?_⟩⟩
  · rw [NB_0 (by decide) (by decide), NB_0 (by decide) (by decide), NB_0 (by decide) (by decide), NB_z (by decide) (by decide), NB_z (by decide) (by decide)]
    exact ⟨⟨by decide, by decide⟩, ⟨by decide, by decide⟩, fun _ => ⟨(show (0 : Int) ≤ 0 by decide), (show (0 : Int) ≤ 5 by decide)⟩, fun _ => ⟨(show (0 : Int) ≤ 0 by decide), (show (0 : Int) ≤ 3 by decide)⟩, fun _ _ => rfl, rfl, by decide⟩
  · rw [NB_0 (j := 0) (by decide) (by decide), NB_0 (j := 1) (by decide) (by decide), NB_0 (j := 3) (by decide) (by decide), NB_0 (j := 4) (by decide) (by decide), NB_z (k := 7) (by decide) (by decide)]
    exact ⟨⟨by decide, by decide⟩, ⟨by decide, by decide⟩, fun _ => ⟨(show (0 : Int) ≤ 0 by decide), (show (0 : Int) ≤ 999 by decide)⟩, fun _ h => absurd h (by omega), fun _ h => absurd h (by omega), fun _ _ _ h => absurd h (by omega), fun _ => (show (0 : Int) ≤ 12 by decide)⟩
  · rw [NB_0 (j := 18) (by decide) (by decide), NB_0 (j := 19) (by decide) (by decide), NB_z (k := 14) (by decide) (by decide)]
    exact ⟨⟨by decide, by decide⟩, ⟨by decide, by decide⟩, fun _ => ⟨(show (-128 : Int) ≤ 0 by decide), (show (0 : Int) ≤ 127 by decide)⟩, fun _ h => absurd h (by omega)⟩
  · rw [NB_0 (j := 63) (by decide) (by decide)]
    exact ⟨⟨by decide, by decide⟩, fun _ h => absurd h (by omega)⟩
  · rw [NB_z (k := 48) (by decide) (by decide), NB_z (k := 49) (by decide) (by decide)]
    refine ⟨fun t ht => ?_, fun _ => ⟨(show (-9223372036854775808 : Int) ≤ 0 by decide), (show (0 : Int) ≤ 9223372036854775807 by decide)⟩⟩
    rw [NB_47, if_pos ht]
    exact ⟨⟨by decide, by decide⟩, ⟨(show (0 : Int) ≤ 0 by decide), (show (0 : Int) ≤ 60 by decide)⟩, fun _ => rfl⟩
  · rw [NB_0 (j := 0) (by decide) (by decide), NB_0 (j := 1) (by decide) (by decide), NB_0 (j := 2) (by decide) (by decide), NB_z (k := 1) (by decide) (by decide), NB_z (k := 2) (by decide) (by decide), MB_z (k := 1) (by decide), MB_z (k := 16) (by decide), MB_z (k := 17) (by decide)]
    exact ⟨rfl, rfl, rfl, rfl, rfl, rfl, fun _ h => absurd h (by omega), fun _ h => absurd h (by omega), fun _ h => absurd h (by omega), fun _ h => absurd h (by omega)⟩
  · rw [NB_0 (j := 0) (by decide) (by decide), NB_0 (j := 3) (by decide) (by decide), NB_0 (j := 4) (by decide) (by decide), NB_z (k := 3) (by decide) (by decide), NB_z (k := 5) (by decide) (by decide), NB_z (k := 6) (by decide) (by decide), NB_z (k := 7) (by decide) (by decide), MB_z (k := 1) (by decide), MB_z (k := 21) (by decide), MB_z (k := 22) (by decide), MB_z (k := 23) (by decide), MB_z (k := 24) (by decide)]
    exact ⟨rfl, rfl, rfl, rfl, rfl, rfl, fun _ h => absurd h (by omega), fun _ _ _ h => absurd h (by omega), fun _ h => absurd h (by omega)⟩
  · rw [NB_0 (j := 18) (by decide) (by decide), NB_0 (j := 19) (by decide) (by decide), NB_z (k := 12) (by decide) (by decide), NB_z (k := 13) (by decide) (by decide), MB_z (k := 2) (by decide), MB_z (k := 31) (by decide), MB_z (k := 32) (by decide)]
    exact ⟨rfl, rfl, rfl, rfl, fun _ h => absurd h (by omega), fun _ h => absurd h (by omega)⟩
  · rw [NB_0 (j := 63) (by decide) (by decide), NB_z (k := 40) (by decide) (by decide), NB_z (k := 41) (by decide) (by decide), MB_z (k := 0) (by decide), MB_z (k := 11) (by decide), MB_z (k := 12) (by decide)]
    exact ⟨rfl, rfl, rfl⟩
  · rw [MB_13, NB_z (k := 48) (by decide) (by decide), NB_z (k := 49) (by decide) (by decide), MB_z (k := 14) (by decide), MB_z (k := 100) (by decide), MB_z (k := 101) (by decide), MB_z (k := 102) (by decide), MB_z (k := 103) (by decide), MB_z (k := 104) (by decide), MB_z (k := 105) (by decide)]
    refine ⟨rfl, rfl, fun t j _ _ => ?_⟩
    unfold rw6
    split <;> rfl
  · rw [NB_0 (j := 71) (by decide) (by decide), MB_z (k := 10) (by decide)]
    exact ⟨⟨by decide, by decide⟩, rfl, fun _ _ h => absurd h (by omega)⟩
