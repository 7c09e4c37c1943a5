/-! holder(..): both sides. -/
section
variable {σ : Mm} {M N : Mm} {n : Nat}
def HLL : List Nat := [16, 900, 901, 17, 18, 1101, 19, 1102, 20, 1103]
theorem upRw_same (r : Nat → Int) (h : Nat) (v w : Int) : upRw (upRw r h v) h w = upRw r h w := by
  funext j
  unfold upRw
  by_cases c : j = h
  · rw [ifp c, ifp c]
  · rw [ifn c, ifn c, ifn c]
/-- the class's side -/
theorem e_R_enter26 (hn : 3000 ≤ n) {td fi : Int} {kd fa : Nat → Int} {h : Nat} (hh : h ≤ 15) (hI : IH td (h : Int) fi kd fa) (hC : CH (M 1 0) (M 1 1) (M 1 2) (M 1 3) (M 16 0) (M 17) (M 18) (M 19) (M 20) (M 900) (M 901) td (h : Int) fi kd fa) {x f : Int} (hx : 0 ≤ x ∧ x ≤ 5) (hxf : x ≠ 3 → f = 0) (h7 : x = 1 → fi < 7) :
    ∃ M', f_R_enter_26 n x f M = some ((h : Int), M') ∧ Fr cdC HLL M M' ∧ CH (M' 1 0) (M' 1 1) (M' 1 2) (M' 1 3) (M' 16 0) (M' 17) (M' 18) (M' 19) (M' 20) (M' 900) (M' 901) td ((h + 1 : Nat) : Int) (fi + if x = 1 then 1 else 0) (upRw kd h x) (upRw fa h f) := by
  have U := CH_up hC (by have := hI.2.2.2.2.2.1; rwa [Int.toNat_natCast] at this) x f
  obtain ⟨k1, k2, k3, k4, k5, k6, k7, k8, k9, k10⟩ := id hC
  have hfi : fi = (cn h (isF kd) : Int) := by have := hI.2.2.2.2.2.1; rwa [Int.toNat_natCast] at this
  rw [Int.toNat_natCast] at k4
  have hcu := cn_le (isU kd fa) h
  have hcf := cn_le (isF kd) h
  unfold f_R_enter_26
  rw [k2, ckp (show (0 ≤ (h : Int) ∧ (h : Int) < 16) ∧ M 16 0 = (h : Int) ∧ (0 ≤ x ∧ x ≤ 5) ∧ (x = 3 ∨ f = 0) from ⟨⟨by omega, by omega⟩, k5, hx, by by_cases c : x = 3; exact Or.inl c; exact Or.inr (hxf c)⟩), Int.toNat_natCast]
  have fB : Fr cdC [16, 900, 901, 17] M (mset (bornM M h x f) 17 h x) := by
    unfold bornM
    exact (((Fr.rf.set rfl).set rfl).set rfl).set rfl
  have r16 : mset (bornM M h x f) 17 h x 16 0 = ((h + 1 : Nat) : Int) := by
    unfold bornM
    rw [mg_k _ _ _ (by decide), mg_k _ _ _ (by decide), mg_k _ _ _ (by decide), mg_s, w_succ (by omega)]
  have r17 : mset (bornM M h x f) 17 h x 17 = upRw kd h x := by
    rw [mg_up]; unfold bornM
    rw [← k6]
    congr 1
  have r900 : mset (bornM M h x f) 17 h x 900 = upRw (M 900) h x := by
    funext j
    unfold bornM
    rw [mg_k _ _ _ (by decide), mg_k _ _ _ (by decide), mg_up]
    congr 1
  have r901 : mset (bornM M h x f) 17 h x 901 = upRw (M 901) h f := by
    funext j
    unfold bornM
    rw [mg_k _ _ _ (by decide), mg_up]
    congr 1
  unfold f_R_enter_47
  rw [ckp (by omega), Int.toNat_natCast]
  generalize mset (bornM M h x f) 17 h x = M2 at fB r16 r17 r900 r901 ⊢
  -- whom it votes as
  have eH : (if x ≠ 3 then f_R_enter_78 n x h h M2 else bnd (f_R_headOf n f h M2) (fun r M1 => f_R_enter_78 n x h r M1)) = f_R_enter_78 n x h (hdN (upRw kd h x) (upRw fa h f) h : Int) M2 := by
    unfold hdN
    rw [upRw_s]
    by_cases c : x = 3
    · rw [ifn (show ¬ x ≠ 3 from fun q => q c), ifp c, e_R_headOf hn hh f (by omega) (fun i hi => by
        rw [r900, upRw_j (by omega), (k10 i (by omega)).1]
        have := hI.2.2.1 i
        omega), bnd_mk]
      have e : fsn h (fun i => decide (M2 17 i = 3 ∧ M2 901 i = f)) = fsn h (samK (upRw kd h x) (upRw fa h f) h) := fsn_cg fun i hi => by
        unfold samK
        rw [r17, r901, upRw_s, upRw_j (show i ≠ h by omega), upRw_j (show i ≠ h by omega), upRw_j (show i ≠ h by omega), (k10 i (by omega)).2]
      rw [e]
    · rw [ifp c, ifn c]
  rw [eH]
  unfold f_R_enter_78 f_R_enter_89
  rw [ckp (by omega), Int.toNat_natCast, mg_k _ _ _ (show (1 : Nat) ≠ 18 by decide), (fB 1 1 rfl).trans k2, w_succ (by omega)]
  generalize hv : hdN (upRw kd h x) (upRw fa h f) h = v at *
  have f3 : Fr cdC HLL M (mset (mset M2 18 h (v : Int)) 1 1 ((h + 1 : Nat) : Int)) := (fB.mono (by decide)).trans ((Fr.rf.set rfl).set rfl)
  have s18 : mset (mset M2 18 h (v : Int)) 1 1 ((h + 1 : Nat) : Int) 18 = upRw (M 18) h v := by
    funext j
    rw [mg_k _ _ _ (by decide), mg_up, fB.row (k := 18) (fun _ => rfl)]
  have s11 : mset (mset M2 18 h (v : Int)) 1 1 ((h + 1 : Nat) : Int) 1 1 = ((h + 1 : Nat) : Int) := mg_s _ _ _ _
  have g3 : Fr cdC [18, 1101] M2 (mset (mset M2 18 h (v : Int)) 1 1 ((h + 1 : Nat) : Int)) := (Fr.rf.set rfl).set rfl
  generalize mset (mset M2 18 h (v : Int)) 1 1 ((h + 1 : Nat) : Int) = M3 at f3 s18 s11 g3 ⊢
  have b12 : M3 1 2 = fi := ((g3 1 2 rfl).trans (fB 1 2 rfl)).trans k3
  have b13 : M3 1 3 = (cn h (isU kd fa) : Int) := ((g3 1 3 rfl).trans (fB 1 3 rfl)).trans k4
  -- the firm's place
  have eF : ∃ M4, (if x ≠ 1 then f_R_enter_115 n h M3 else ck (0 ≤ M3 1 2 ∧ M3 1 2 < 7) (f_R_enter_115 n h (mset (mset M3 19 (M3 1 2).toNat h) 1 2 (w32 (mset M3 19 (M3 1 2).toNat h 1 2 + 1))))) = f_R_enter_115 n h M4 ∧ Fr cdC [19, 1102] M3 M4 ∧ M4 19 = (if x = 1 then upRw (M 19) (cn h (isF kd)) h else M 19) ∧ M4 1 2 = fi + if x = 1 then 1 else 0 := by
    have e19 : M3 19 = M 19 := (g3.row (k := 19) (fun _ => rfl)).trans (fB.row (k := 19) (fun _ => rfl))
    by_cases c : x = 1
    · have := h7 c
      refine ⟨mset (mset M3 19 (cn h (isF kd)) h) 1 2 ((cn h (isF kd) + 1 : Nat) : Int), ?_, (Fr.rf.set rfl).set rfl, ?_, ?_⟩
      · rw [ifn (show ¬ x ≠ 1 from fun q => q c), b12, ckp (by omega), hfi, Int.toNat_natCast, mg_k _ _ _ (show (1 : Nat) ≠ 19 by decide), b12, hfi, w_succ (by omega)]
      · rw [ifp c]
        funext j
        rw [mg_k _ _ _ (by decide), mg_up, e19]
      · rw [mg_s, ifp c, hfi]; rfl
    · refine ⟨M3, by rw [ifp c], Fr.rf, by rw [ifn c]; exact e19, by rw [ifn c, b12]; omega⟩
  obtain ⟨M4, e4, g4, c19, c12⟩ := eF
  rw [e4, e_R_enter115 (u := cn h (isU kd fa)) ((g4 1 1 rfl).trans s11) hh ((g4 1 3 rfl).trans b13) (by omega)]
  have c17 : M4 17 = upRw kd h x := ((g4.row (k := 17) (fun _ => rfl)).trans (g3.row (k := 17) (fun _ => rfl))).trans r17
  have c18 : M4 18 = upRw (M 18) h v := (g4.row (k := 18) (fun _ => rfl)).trans s18
  have c20 : M4 20 = M 20 := ((g4.row (k := 20) (fun _ => rfl)).trans (g3.row (k := 20) (fun _ => rfl))).trans (fB.row (k := 20) (fun _ => rfl))
  have eU : ((M4 17 h = 2 ∨ M4 17 h = 3) ∧ M4 18 h = (h : Int)) ↔ isU (upRw kd h x) (upRw fa h f) h = true := by
    rw [c17, c18, upRw_s]
    unfold isU isP
    rw [hv, Bool.and_eq_true, decide_eq_true_eq, decide_eq_true_eq, upRw_s, upRw_s]
    constructor
    · intro q; exact ⟨q.1, by have := q.2; omega⟩
    · intro q; exact ⟨q.1, by have := q.2; omega⟩
  have f4 : Fr cdC HLL M M4 := f3.trans (g4.mono (by decide))
  have c900 : M4 900 = upRw (M 900) h x := ((g4.row (k := 900) (fun _ => rfl)).trans (g3.row (k := 900) (fun _ => rfl))).trans r900
  have c901 : M4 901 = upRw (M 901) h f := ((g4.row (k := 901) (fun _ => rfl)).trans (g3.row (k := 901) (fun _ => rfl))).trans r901
  have c16 : M4 16 0 = ((h + 1 : Nat) : Int) := ((g4 16 0 rfl).trans (g3 16 0 rfl)).trans r16
  have c11 : M4 1 1 = ((h + 1 : Nat) : Int) := (g4 1 1 rfl).trans s11
  have c10 : M4 1 0 = M 1 0 := f4 1 0 rfl
  have c13 : M4 1 3 = (cn h (isU kd fa) : Int) := (g4 1 3 rfl).trans b13
  by_cases c : isU (upRw kd h x) (upRw fa h f) h = true
  · rw [ifp (eU.mpr c)]
    rw [ifp c, ifp c] at U
    have g5 : Fr cdC [20, 1103] M4 (mset (mset M4 20 (cn h (isU kd fa)) h) 1 3 ((cn h (isU kd fa) + 1 : Nat) : Int)) := (Fr.rf.set rfl).set rfl
    refine ⟨_, rfl, f4.trans (g5.mono (by decide)), ?_⟩
    rw [g5 1 0 rfl, g5 1 1 rfl, g5 1 2 rfl, mg_s, g5 16 0 rfl, g5.row (k := 17) (fun _ => rfl), g5.row (k := 18) (fun _ => rfl), g5.row (k := 19) (fun _ => rfl), g5.row (k := 900) (fun _ => rfl), g5.row (k := 901) (fun _ => rfl)]
    have e20 : mset (mset M4 20 (cn h (isU kd fa)) h) 1 3 ((cn h (isU kd fa) + 1 : Nat) : Int) 20 = upRw (M 20) (cn h (isU kd fa)) h := by
      funext j
      rw [mg_k _ _ _ (by decide), mg_up, c20]
    rw [e20, c10, c11, c12, c16, c17, c18, c19, c900, c901]
    have ek : M 1 3 + 1 = ((cn h (isU kd fa) + 1 : Nat) : Int) := by omega
    rw [ek, k6] at U
    exact U
  · rw [ifn (fun q => c (eU.mp q))]
    rw [ifn c, ifn c] at U
    refine ⟨_, rfl, f4, ?_⟩
    rw [c10, c11, c12, c13, c16, c17, c18, c19, c20, c900, c901]
    have ek : M 1 3 + 0 = (cn h (isU kd fa) : Int) := by omega
    rw [ek, k6] at U
    exact U
end
