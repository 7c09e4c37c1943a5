/-! What holds always; the two memories of one state; a call that both answer alike. -/
def PR : List Nat := [1000, 1001, 1002, 1003, 1004, 1018, 1019, 1063, 1071, 1, 2, 3, 4, 5, 6, 7, 8, 9, 10, 11, 12, 13, 14, 15, 40, 41, 46, 47, 48, 49]
def PC : List Nat := [1008, 1100, 1101, 1102, 1103, 1104, 1116, 1200, 1201, 10, 11, 12, 13, 14, 15, 16, 17, 18, 19, 20, 21, 22, 23, 24, 27, 28, 29, 30, 31, 32, 33, 34, 35, 36, 37, 100, 101, 102, 103, 104, 105, 900, 901]
def Inv (σ : Mm) : Prop :=
  IH (σ 0 0) (σ 0 1) (σ 0 2) (σ 1) (σ 2) ∧
  IS (σ 0 0) (σ 0 1) (σ 0 3) (σ 0 4) (σ 1) (σ 3) (σ 4) (σ 5) (σ 6) (σ 7) (σ 8) (σ 9) (σ 10) (σ 11) ∧
  IC (σ 0 18) (σ 0 19) (σ 12) (σ 13) (σ 14) (σ 15) ∧ IM (σ 0 1) (σ 0 63) (σ 40) (σ 41) ∧ IT (σ 47) (σ 48) (σ 49)
def AgR (N σ : Mm) : Prop := ∀ k j, PR.elem (cdR k j) = true → N k j = σ k j
def RelC (M σ : Mm) : Prop :=
  CH (M 1 0) (M 1 1) (M 1 2) (M 1 3) (M 16 0) (M 17) (M 18) (M 19) (M 20) (M 900) (M 901) (σ 0 0) (σ 0 1) (σ 0 2) (σ 1) (σ 2) ∧
  CS (M 1 4) (M 1 16) (M 21) (M 22) (M 23) (M 24) (M 27) (M 28) (M 29) (σ 0 0) (σ 0 3) (σ 0 4) (σ 3) (σ 4) (σ 5) (σ 6) (σ 7) (σ 8) (σ 9) (σ 10) (σ 11) ∧
  CC (M 2 0) (M 2 1) (M 30) (M 31) (M 32) (M 33) (M 34) (M 35) (M 36) (M 37) (σ 0 18) (σ 0 19) (σ 12) (σ 13) (σ 14) (σ 15) ∧
  CM (M 0 8) (M 11) (M 12) (σ 0 63) (σ 40) (σ 41) ∧ CT (M 13) (M 14) (M 100) (M 101) (M 102) (M 103) (M 104) (M 105) (σ 47) (σ 48) (σ 49) ∧ CA (M 10) (σ 0 71) (σ 46)
def J (M N : Mm) : Prop := ∃ σ, Inv σ ∧ AgR N σ ∧ RelC M σ
def Sim (a b : Rr) : Prop := ∃ r M' N', a = some (r, M') ∧ b = some (r, N') ∧ J M' N'
theorem AgR.fr {L : List Nat} {N N' σ : Mm} (h : AgR N σ) (f : Fr cdR L N N') (hd : (PR.all fun x => !L.elem x) = true) : AgR N' σ := by
  intro k j hk
  have h1 := List.all_eq_true.mp hd (cdR k j) (List.elem_iff.mp hk)
  rw [f k j (by simpa using h1)]
  exact h k j hk
theorem AgR.set {N σ : Mm} (h : AgR N σ) (k j : Nat) (v : Int) : AgR (mset N k j v) (mset σ k j v) := by
  intro k' j' hk
  rw [mg, mg, h k' j' hk]
  by_cases e : k' = k
  · subst e; rw [if_pos rfl, if_pos rfl]
    by_cases e2 : j' = j
    · rw [if_pos e2, if_pos e2]
    · rw [if_neg e2, if_neg e2, h k' j' hk]
  · rw [if_neg e, if_neg e]
theorem AgR.row {N σ : Mm} (h : AgR N σ) {k : Nat} (hk : ∀ j, PR.elem (cdR k j) = true) : N k = σ k := funext fun j => h k j (hk j)
theorem RelC.fr {L : List Nat} {M M' σ : Mm} (h : RelC M σ) (f : Fr cdC L M M') (hd : (PC.all fun x => !L.elem x) = true) : RelC M' σ := by
  have g : ∀ k j, PC.elem (cdC k j) = true → M' k j = M k j := by
    intro k j hk
    have h1 := List.all_eq_true.mp hd (cdC k j) (List.elem_iff.mp hk)
    exact f k j (by simpa using h1)
  have gr : ∀ k, (∀ j, PC.elem (cdC k j) = true) → M' k = M k := fun k hk => funext fun j => g k j (hk j)
  unfold RelC at h ⊢
  rw [g 1 0 rfl, g 1 1 rfl, g 1 2 rfl, g 1 3 rfl, g 1 4 rfl, g 1 16 rfl, g 2 0 rfl, g 2 1 rfl, g 0 8 rfl, gr 16 (fun _ => rfl), gr 17 (fun _ => rfl), gr 18 (fun _ => rfl), gr 19 (fun _ => rfl), gr 20 (fun _ => rfl), gr 900 (fun _ => rfl), gr 901 (fun _ => rfl), gr 21 (fun _ => rfl), gr 22 (fun _ => rfl), gr 23 (fun _ => rfl), gr 24 (fun _ => rfl), gr 27 (fun _ => rfl), gr 28 (fun _ => rfl), gr 29 (fun _ => rfl), gr 30 (fun _ => rfl), gr 31 (fun _ => rfl), gr 32 (fun _ => rfl), gr 33 (fun _ => rfl), gr 34 (fun _ => rfl), gr 35 (fun _ => rfl), gr 36 (fun _ => rfl), gr 37 (fun _ => rfl), gr 11 (fun _ => rfl), gr 12 (fun _ => rfl), gr 13 (fun _ => rfl), gr 14 (fun _ => rfl), gr 100 (fun _ => rfl), gr 101 (fun _ => rfl), gr 102 (fun _ => rfl), gr 103 (fun _ => rfl), gr 104 (fun _ => rfl), gr 105 (fun _ => rfl), gr 10 (fun _ => rfl)]
  exact h
