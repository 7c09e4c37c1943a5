/-! The firms that are not hollow: the class's seven rounds. -/
section
variable {σ : Mm} {M N : Mm}
/-- something of firm c is with nobody, with one that is no firm, or with a firm of B -/
def tOp (σ : Mm) (B : Nat → Bool) (c : Nat) : Prop := 0 < 12 - hpa σ c (σ 0 3).toNat ∨ ∃ h : Nat, (h : Int) < σ 0 1 ∧ 0 < hpt σ c h (σ 0 3).toNat ∧ (isF (σ 1) h = false ∨ B h = true)
def clo (σ : Mm) (B : Nat → Bool) : Prop := ∀ c : Nat, (c : Int) < σ 0 1 → isF (σ 1) c = true → tOp σ B c → B c = true
/-- not hollow: of every set that is closed -/
def Opn (σ : Mm) (c : Nat) : Prop := ∀ B : Nat → Bool, clo σ B → B c = true
theorem tOp_mono {B B' : Nat → Bool} (hB : ∀ y, B y = true → B' y = true) {c : Nat} (h : tOp σ B c) : tOp σ B' c := by
  rcases h with h | ⟨y, h1, h2, h3⟩
  · exact Or.inl h
  · exact Or.inr ⟨y, h1, h2, h3.imp id (hB y)⟩
theorem tOp_sound {B : Nat → Bool} (hB : ∀ y, B y = true → Opn σ y) {c : Nat} (hc : (c : Int) < σ 0 1) (hF : isF (σ 1) c = true) (h : tOp σ B c) : Opn σ c :=
  fun B' hB' => hB' c hc hF (tOp_mono (fun y hy => hB y hy B' hB') h)
theorem Opn_closed {B : Nat → Bool} (hB : clo σ B) {c : Nat} (h : Opn σ c) : B c = true := h B hB
theorem e_F_givesOut (n : Nat) (hn : 3000 ≤ n) (hI : Inv σ) (hC : RelC M σ) (hL : LDt M σ (σ 0 3).toNat) {c : Nat} (hc : (c : Int) < σ 0 1) (hF : isF (σ 1) c = true) (x : Int) : ∃ v, f_F_givesOut n c x M = some (v, M) ∧ (v ≠ 0 ↔ ∃ h : Nat, (h : Int) < σ 0 1 ∧ 0 < hpt σ c h (σ 0 3).toNat ∧ (isF (σ 1) h = false ∨ bI x h = true)) := by
  have bh := hI.1.2.1
  have L := hL c hc hF
  have go : ∀ (r h g : Nat), h + r = (σ 0 1).toNat → r < g → (∀ y : Nat, y < h → ¬ (0 < hpt σ c y (σ 0 3).toNat ∧ (isF (σ 1) y = false ∨ bI x y = true))) → ∃ v, lp_F_givesOut_2 n g c x h M = some (v, M) ∧ (v ≠ 0 ↔ ∃ h : Nat, (h : Int) < σ 0 1 ∧ 0 < hpt σ c h (σ 0 3).toNat ∧ (isF (σ 1) h = false ∨ bI x h = true)) := by
    intro r
    induction r with
    | zero =>
      intro h g hh hg hN
      obtain ⟨g', rfl, _⟩ := f_pos hg
      show ∃ v, f_F_givesOut_2 n (lp_F_givesOut_2 n g') c x h M = _ ∧ _
      unfold f_F_givesOut_2
      rw [ifp (by rw [hC.1.2.1]; omega)]
      exact ⟨0, rfl, fun q => absurd rfl q, fun ⟨y, y1, y2⟩ => absurd y2 (hN y (by omega))⟩
    | succ r ih =>
      intro h g hh hg hN
      obtain ⟨g', rfl, hg'⟩ := f_pos hg
      show ∃ v, f_F_givesOut_2 n (lp_F_givesOut_2 n g') c x h M = _ ∧ _
      have skip : ¬ (0 < hpt σ c h (σ 0 3).toNat ∧ (isF (σ 1) h = false ∨ bI x h = true)) → ∃ v, lp_F_givesOut_2 n g' c x ((h + 1 : Nat) : Int) M = some (v, M) ∧ (v ≠ 0 ↔ ∃ h : Nat, (h : Int) < σ 0 1 ∧ 0 < hpt σ c h (σ 0 3).toNat ∧ (isF (σ 1) h = false ∨ bI x h = true)) := fun z => ih (h + 1) g' (by omega) hg' fun y hy => by
        by_cases e : y = h
        · rw [e]; exact z
        · exact hN y (by omega)
      have m17 : M 17 = σ 1 := hC.1.2.2.2.2.2.1
      unfold f_F_givesOut_2 f_F_givesOut_46
      rw [ifn (show ¬ M 1 1 ≤ (h : Int) by rw [hC.1.2.1]; omega)]
      simp only [ckp (show (0 : Int) ≤ (c : Int) ∧ (c : Int) < 16 by omega), ckp (show (0 : Int) ≤ (h : Int) ∧ (h : Int) < 16 by omega), Int.toNat_natCast, L.1 h (by omega), w_succ (show h < 2000000000 by omega), e_R_isFirm n M (h : Int) (by rw [hC.1.2.1]; exact bh.2), bnd_mk, hC.1.2.1, m17, bit_I (show h < 32 by omega)]
      by_cases c1 : hpt σ c h (σ 0 3).toNat ≤ 0
      · rw [ifp c1]; exact skip fun z => by omega
      · rw [ifn c1]
        by_cases c2 : isF (σ 1) h = true
        · rw [ifp (show 0 ≤ (h : Int) ∧ (h : Int) < σ 0 1 ∧ σ 1 h = 1 from ⟨by omega, by omega, of_decide_eq_true c2⟩), i1]
          by_cases c3 : bI x h = true
          · rw [ifp c3, ifn (show ¬ (1 : Int) ≠ 1 by decide)]
            exact ⟨1, rfl, fun _ => ⟨h, by omega, by omega, Or.inr c3⟩, fun _ => by decide⟩
          · rw [ifn c3, ifp (show (0 : Int) ≠ 1 by decide)]
            exact skip fun z => by rcases z.2 with z | z; (rw [c2] at z; cases z); exact c3 z
        · rw [ifn (show ¬ (0 ≤ (h : Int) ∧ (h : Int) < σ 0 1 ∧ σ 1 h = 1) from fun z => c2 (isF_of z.2.2)), i0]
          exact ⟨1, rfl, fun _ => ⟨h, by omega, by omega, Or.inl (by simpa using c2)⟩, fun _ => by decide⟩
  exact go (σ 0 1).toNat 0 n (by omega) (by omega) (fun y hy => absurd hy (Nat.not_lt_zero y))
theorem l_F_open12 (n : Nat) (hn : 3000 ≤ n) (hI : Inv σ) (hC : RelC M σ) (hL : LDt M σ (σ 0 3).toNat) (k4 : Int → Int → Mm → Rr) {rd : Nat} (hrd : rd < 7) : ∀ (r h g : Nat) (x : Int), h + r = (σ 0 1).toNat → r < g → inR x → ∃ x', lp_F_openFirms_12 n k4 g x rd (cn h (isF (σ 1))) M = k4 x' ((rd + 1 : Nat) : Int) M ∧ inR x' ∧ (∀ y, bI x y = true → bI x' y = true) ∧ ((∀ y, bI x y = true → Opn σ y) → ∀ y, bI x' y = true → Opn σ y) ∧ ∀ c : Nat, h ≤ c → (c : Int) < σ 0 1 → isF (σ 1) c = true → tOp σ (bI x) c → bI x' c = true := by
  have bh := hI.1.2.1
  have h7 : (cn (σ 0 1).toNat (isF (σ 1)) : Int) ≤ 7 := by have := hI.1.2.2.2.2.2; omega
  intro r
  induction r with
  | zero =>
    intro h g x hh hg hx
    obtain ⟨g', rfl, _⟩ := f_pos hg
    have e : h = (σ 0 1).toNat := by omega
    subst e
    show ∃ x', f_F_openFirms_12 n k4 (lp_F_openFirms_12 n k4 g') x rd _ M = _ ∧ _
    unfold f_F_openFirms_12
    rw [ifp (by rw [hC.1.2.2.1, hI.1.2.2.2.2.2.1]; omega), w_succ (by omega)]
    exact ⟨x, rfl, hx, fun _ q => q, fun q => q, fun c hc hc2 => by omega⟩
  | succ r ih =>
    intro h g x hh hg hx
    by_cases hF : isF (σ 1) h = true
    · obtain ⟨g', rfl, hg'⟩ := f_pos hg
      show ∃ x', f_F_openFirms_12 n k4 (lp_F_openFirms_12 n k4 g') x rd _ M = _ ∧ _
      have h19 := hC.1.2.2.2.2.2.2.2.1 h (by omega) hF
      have hlt := cn_lt (p := isF (σ 1)) (show h < (σ 0 1).toNat by omega) hF
      obtain ⟨v, v1, v2⟩ := e_F_givesOut n hn hI hC hL (c := h) (by omega) hF x
      have yes : tOp σ (bI x) h → ∃ x', lp_F_openFirms_12 n k4 g' (ior x (ish 1 h)) rd ((cn (h + 1) (isF (σ 1)) : Nat) : Int) M = k4 x' ((rd + 1 : Nat) : Int) M ∧ inR x' ∧ (∀ y, bI x y = true → bI x' y = true) ∧ ((∀ y, bI x y = true → Opn σ y) → ∀ y, bI x' y = true → Opn σ y) ∧ ∀ c : Nat, h ≤ c → (c : Int) < σ 0 1 → isF (σ 1) c = true → tOp σ (bI x) c → bI x' c = true := by
        intro t
        have hb : ∀ y, bI (ior x (ish 1 h)) y = (bI x y || decide (y = h)) := fun y => by rw [bI_or, bI_bit (by omega)]
        obtain ⟨x', z1, z2, z3, z4, z5⟩ := ih (h + 1) g' (ior x (ish 1 h)) (by omega) hg' (ir_or _ _)
        refine ⟨x', z1, z2, fun y hy => z3 y (by rw [hb, hy]; rfl), fun q => z4 fun y hy => ?_, fun c hc hc2 hcF hct => ?_⟩
        · rw [hb] at hy
          by_cases e : y = h
          · rw [e]; exact tOp_sound q (by omega) hF t
          · rw [decide_eq_false e, Bool.or_false] at hy; exact q y hy
        · by_cases e : c = h
          · exact z3 c (by rw [hb, decide_eq_true e, Bool.or_true])
          · exact z5 c (by omega) hc2 hcF (tOp_mono (fun y hy => by rw [hb, hy]; rfl) hct)
      have no : ¬ tOp σ (bI x) h → ∃ x', lp_F_openFirms_12 n k4 g' (ior x 0) rd ((cn (h + 1) (isF (σ 1)) : Nat) : Int) M = k4 x' ((rd + 1 : Nat) : Int) M ∧ inR x' ∧ (∀ y, bI x y = true → bI x' y = true) ∧ ((∀ y, bI x y = true → Opn σ y) → ∀ y, bI x' y = true → Opn σ y) ∧ ∀ c : Nat, h ≤ c → (c : Int) < σ 0 1 → isF (σ 1) c = true → tOp σ (bI x) c → bI x' c = true := by
        intro t
        rw [ior_0 hx]
        obtain ⟨x', z1, z2, z3, z4, z5⟩ := ih (h + 1) g' x (by omega) hg' hx
        refine ⟨x', z1, z2, z3, z4, fun c hc hc2 hcF hct => ?_⟩
        by_cases e : c = h
        · rw [e] at hct; exact absurd hct t
        · exact z5 c (by omega) hc2 hcF hct
      unfold f_F_openFirms_12 f_F_openFirms_55 f_F_openFirms_63
      rw [ifn (by rw [hC.1.2.2.1, hI.1.2.2.2.2.2.1]; omega), ckp (by omega), Int.toNat_natCast, h19, ckp (by omega), Int.toNat_natCast, (hL h (by omega) hF).2, w_succ (by omega), ← cn_t hF]
      by_cases c1 : 0 < 12 - hpa σ h (σ 0 3).toNat
      · rw [ifp c1]; exact yes (Or.inl c1)
      · rw [ifn c1, v1, bnd_mk]
        by_cases c2 : v = 0
        · rw [ifp c2]; exact no fun z => by rcases z with z | z; exact c1 z; exact v2.mpr z c2
        · rw [ifn c2]; exact yes (Or.inr (v2.mp c2))
    · have e : cn (h + 1) (isF (σ 1)) = cn h (isF (σ 1)) := cn_f (by simpa using hF)
      obtain ⟨x', z1, z2, z3, z4, z5⟩ := ih (h + 1) g x (by omega) (by omega) hx
      rw [e] at z1
      exact ⟨x', z1, z2, z3, z4, fun c hc hc2 hcF hct => by
        by_cases e2 : c = h
        · rw [e2] at hcF; exact absurd hcF hF
        · exact z5 c (by omega) hc2 hcF hct⟩
end
