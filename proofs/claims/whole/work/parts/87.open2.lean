/-! hollow(..): the class's rounds close the set, so do the reference's. -/
section
variable {σ : Mm} {M N : Mm}
/-- of one set in another: the count tells -/
theorem cn_less {p q : Nat → Bool} (h : ∀ i, p i = true → q i = true) {x k : Nat} (hx : x < k) (hp : p x = false) (hq : q x = true) : cn k p < cn k q := by
  have h1 := cn_upd (p := p) (q := fun i => if i = x then true else p i) (x := x) hp (by simp) (fun i hi => by simp [hi]) k
  have h2 := cn_imp (p := fun i => if i = x then true else p i) (q := q) (fun i hi => by
    by_cases e : i = x
    · rw [e]; exact hq
    · simp [e] at hi; exact h i hi) k
  rw [ifp hx] at h1
  omega
theorem cn_full {p q : Nat → Bool} (h : ∀ i, p i = true → q i = true) {k : Nat} (hc : cn k q ≤ cn k p) {x : Nat} (hx : x < k) (hq : q x = true) : p x = true := by
  cases e : p x with
  | true => rfl
  | false => have := cn_less h hx e hq; omega
theorem e_F_openFirms (n : Nat) (hn : 3000 ≤ n) (hI : Inv σ) (hC : RelC M σ) (hL : LDt M σ (σ 0 3).toNat) : ∃ x', f_F_openFirms n M = some (x', M) ∧ inR x' ∧ (∀ y, bI x' y = true → Opn σ y) ∧ ∀ c : Nat, (c : Int) < σ 0 1 → isF (σ 1) c = true → Opn σ c → bI x' c = true := by
  have bh := hI.1.2.1
  have h7 : (cn (σ 0 1).toNat (isF (σ 1)) : Int) ≤ 7 := by have := hI.1.2.2.2.2.2; omega
  have go : ∀ (r rd g : Nat) (x : Int), rd + r = 7 → r < g → inR x → (∀ y, bI x y = true → Opn σ y) → (clo σ (bI x) ∨ rd ≤ cn (σ 0 1).toNat (fun c => isF (σ 1) c && bI x c)) → ∃ x', lp_F_openFirms_4 n g x rd M = some (x', M) ∧ inR x' ∧ (∀ y, bI x' y = true → Opn σ y) ∧ ∀ c : Nat, (c : Int) < σ 0 1 → isF (σ 1) c = true → Opn σ c → bI x' c = true := by
    intro r
    induction r with
    | zero =>
      intro rd g x hr hg hx hs hc
      obtain ⟨g', rfl, _⟩ := f_pos hg
      show ∃ x', f_F_openFirms_4 n (lp_F_openFirms_4 n g') x rd M = _ ∧ _
      unfold f_F_openFirms_4
      rw [ifp (by omega)]
      refine ⟨x, rfl, hx, hs, fun c h1 h2 h3 => ?_⟩
      rcases hc with hc | hc
      · exact Opn_closed hc h3
      · have h4 := cn_full (p := fun c => isF (σ 1) c && bI x c) (q := isF (σ 1)) (fun i hi => by simp at hi; exact hi.1) (k := (σ 0 1).toNat) (by omega) (x := c) (by omega) h2
        simp at h4
        exact h4.2
    | succ r ih =>
      intro rd g x hr hg hx hs hc
      obtain ⟨g', rfl, hg'⟩ := f_pos hg
      show ∃ x', f_F_openFirms_4 n (lp_F_openFirms_4 n g') x rd M = _ ∧ _
      obtain ⟨x1, z1, z2, z3, z4, z5⟩ := l_F_open12 n hn hI hC hL (lp_F_openFirms_4 n g') (rd := rd) (by omega) (σ 0 1).toNat 0 n x (by omega) (by omega) hx
      have z1' : lp_F_openFirms_12 n (lp_F_openFirms_4 n g') n x rd 0 M = _ := z1
      unfold f_F_openFirms_4
      rw [ifn (by omega), z1']
      refine ih (rd + 1) g' x1 (by omega) hg' z2 (z4 hs) ?_
      by_cases hcl : clo σ (bI x)
      · refine Or.inl fun c h1 h2 h3 => ?_
        have hle : ∀ y, bI x1 y = true → bI x y = true := fun y hy => Opn_closed hcl (z4 hs y hy)
        exact z3 c (hcl c h1 h2 (tOp_mono hle h3))
      · rcases hc with hc | hc
        · exact absurd hc hcl
        · refine Or.inr ?_
          have hex : ∃ c : Nat, (c : Int) < σ 0 1 ∧ isF (σ 1) c = true ∧ tOp σ (bI x) c ∧ bI x c = false := by
            refine Classical.byContradiction fun hN => hcl fun c h1 h2 h3 => ?_
            cases e : bI x c with
            | true => rfl
            | false => exact absurd ⟨c, h1, h2, h3, e⟩ hN
          obtain ⟨c, h1, h2, h3, h4⟩ := hex
          have := cn_less (p := fun c => isF (σ 1) c && bI x c) (q := fun c => isF (σ 1) c && bI x1 c) (fun i hi => by simp at hi ⊢; exact ⟨hi.1, z3 i hi.2⟩) (x := c) (k := (σ 0 1).toNat) (by omega) (by simp [h4]) (by simp [h2, z5 c (Nat.zero_le _) h1 h2 h3])
          omega
  exact go 7 0 n 0 (by omega) (by omega) ir_0 (fun y hy => by rw [bI_0] at hy; cases hy) (Or.inr (Nat.zero_le _))
/-- some share of c is with h -/
theorem hpt_pos (hI : Inv σ) {c h : Nat} : 0 < hpt σ c h (σ 0 3).toNat ↔ ∃ s : Nat, (s : Int) < σ 0 3 ∧ σ 3 s = (c : Int) ∧ ow σ s (σ 0 0) = (h : Int) ∧ 0 < σ 5 s := by
  have b1 := hI.2.1.1
  have p4 := hI.2.1.2.2.2.1
  have hg : ∀ s, s < (σ 0 3).toNat → 0 ≤ (if σ 3 s = (c : Int) ∧ ow σ s (σ 0 0) = (h : Int) then σ 5 s else 0) := by
    intro s hs
    have := (p4 s (by omega)).2.2.1
    split
    · exact this.1
    · exact Int.le_refl 0
  constructor
  · intro hp
    refine Classical.byContradiction fun hN => ?_
    have : hpt σ c h (σ 0 3).toNat = 0 := sm_zero fun s hs => by
      by_cases e : σ 3 s = (c : Int) ∧ ow σ s (σ 0 0) = (h : Int)
      · rw [ifp e]
        have h1 := (p4 s (by omega)).2.2.1
        have h2 : ¬ 0 < σ 5 s := fun z => hN ⟨s, by omega, e.1, e.2, z⟩
        omega
      · rw [ifn e]
    omega
  · rintro ⟨s, h1, h2, h3, h4⟩
    have := sm_one (g := fun s => if σ 3 s = (c : Int) ∧ ow σ s (σ 0 0) = (h : Int) then σ 5 s else 0) (show s < (σ 0 3).toNat by omega) hg
    simp only [ifp (show σ 3 s = (c : Int) ∧ ow σ s (σ 0 0) = (h : Int) from ⟨h2, h3⟩)] at this
    show 0 < sm _ _
    omega
/-- the reference's marks -/
def onR (N : Mm) (c : Nat) : Bool := decide (N 35 c = 1)
def RST (N σ : Mm) : Prop := (∀ c : Nat, (c : Int) < σ 0 1 → N 35 c = 0 ∨ N 35 c = 1) ∧ (∀ c : Nat, (c : Int) < σ 0 1 → N 35 c = 1 → Opn σ c) ∧ (∀ c : Nat, (c : Int) < σ 0 1 → N 35 c = 1 → isF (σ 1) c = true) ∧ ∀ c : Nat, (c : Int) < σ 0 1 → isF (σ 1) c = true → tOp σ (fun _ => false) c → N 35 c = 1
/-- a share that would mark its firm -/
def mrk (N σ : Mm) (s : Nat) : Prop := N 35 (σ 3 s).toNat ≠ 1 ∧ σ 5 s ≠ 0 ∧ 0 ≤ ow σ s (σ 0 0) ∧ N 35 (ow σ s (σ 0 0)).toNat ≠ 0
theorem l_m_reach121 (n : Nat) (hn : 3000 ≤ n) (hI : Inv σ) (k113 : Int → Mm → Rr) : ∀ (r s g : Nat) (x1 : Int) (N : Mm), s + r = (σ 0 3).toNat → r < g → AgR N σ → (∀ s : Nat, (s : Int) < σ 0 3 → N 22 s = (Wh σ s (σ 0 0)).1) → RST N σ → x1 = 0 ∨ x1 = 1 → ∃ x' N', lp_m_findReach_121 n k113 g x1 s N = k113 x' N' ∧ Fr cdR [35] N N' ∧ RST N' σ ∧ (x' = 0 ∨ x' = 1) ∧ (∀ c : Nat, (c : Int) < σ 0 1 → N 35 c = 1 → N' 35 c = 1) ∧ (x' = 1 → x1 = 1 ∨ ∃ c : Nat, (c : Int) < σ 0 1 ∧ N 35 c ≠ 1 ∧ N' 35 c = 1) ∧ (x' = 0 → x1 = 0 ∧ N' = N ∧ ∀ y : Nat, s ≤ y → (y : Int) < σ 0 3 → ¬ mrk N σ y) := by
  have bh := hI.1.2.1
  have b1 := hI.2.1.1
  have p4 := hI.2.1.2.2.2.1
  intro r
  induction r with
  | zero =>
    intro s g x1 N hs hg hA hW hR hx
    obtain ⟨g', rfl, _⟩ := f_pos hg
    show ∃ x' N', f_m_findReach_121 n k113 (lp_m_findReach_121 n k113 g') x1 s N = _ ∧ _
    unfold f_m_findReach_121
    rw [ifp (by rw [hA 0 3 rfl]; omega)]
    exact ⟨x1, N, rfl, Fr.rf, hR, hx, fun _ _ q => q, fun q => Or.inl q, fun q => ⟨q, rfl, fun y h1 h2 => by omega⟩⟩
  | succ r ih =>
    intro s g x1 N hs hg hA hW hR hx
    obtain ⟨g', rfl, hg'⟩ := f_pos hg
    show ∃ x' N', f_m_findReach_121 n k113 (lp_m_findReach_121 n k113 g') x1 s N = _ ∧ _
    have q := ow_in hI (s := s) (by omega) (σ 0 0)
    have ps := p4 s (by omega)
    obtain ⟨c, hc⟩ := nat_of ps.1.1
    have hcF : isF (σ 1) c = true := isF_of (by have := ps.1.2.2; rw [hc, Int.toNat_natCast] at this; exact this)
    have skip : ¬ mrk N σ s → ∃ x' N', lp_m_findReach_121 n k113 g' x1 ((s + 1 : Nat) : Int) N = k113 x' N' ∧ Fr cdR [35] N N' ∧ RST N' σ ∧ (x' = 0 ∨ x' = 1) ∧ (∀ c : Nat, (c : Int) < σ 0 1 → N 35 c = 1 → N' 35 c = 1) ∧ (x' = 1 → x1 = 1 ∨ ∃ c : Nat, (c : Int) < σ 0 1 ∧ N 35 c ≠ 1 ∧ N' 35 c = 1) ∧ (x' = 0 → x1 = 0 ∧ N' = N ∧ ∀ y : Nat, s ≤ y → (y : Int) < σ 0 3 → ¬ mrk N σ y) := by
      intro hm
      obtain ⟨x', N', z1, z2, z3, z4, z5, z6, z7⟩ := ih (s + 1) g' x1 N (by omega) hg' hA hW hR hx
      exact ⟨x', N', z1, z2, z3, z4, z5, z6, fun e => ⟨(z7 e).1, (z7 e).2.1, fun y h1 h2 => by
        by_cases e2 : y = s
        · rw [e2]; exact hm
        · exact (z7 e).2.2 y (by omega) h2⟩⟩
    unfold f_m_findReach_121 f_m_findReach_190
    simp only [ifn (show ¬ N 0 3 ≤ (s : Int) by rw [hA 0 3 rfl]; omega), ckp (show (0 : Int) ≤ (s : Int) ∧ (s : Int) < 40 by omega), Int.toNat_natCast, hA.row (k := 3) (fun _ => rfl), hA.row (k := 5) (fun _ => rfl), hW s (by omega), hc, ckp (show (0 : Int) ≤ (c : Int) ∧ (c : Int) < 16 by omega), w_succ (show s < 2000000000 by omega)]
    by_cases c1 : N 35 c = 1
    · rw [ifp c1]; exact skip fun z => z.1 (by rw [hc, Int.toNat_natCast]; exact c1)
    · rw [ifn c1]
      by_cases c2 : σ 5 s = 0
      · rw [ifp c2]; exact skip fun z => z.2.1 c2
      · rw [ifn c2]
        rcases q with q | q
        · rw [ifp (by omega)]; exact skip fun z => by have := z.2.2.1; omega
        · rw [ifn (by omega), ← q.2.2.1]
          obtain ⟨y, hy⟩ := nat_of q.1
          rw [hy, ckp (by omega), Int.toNat_natCast]
          by_cases c3 : N 35 y = 0
          · rw [ifn (fun z => z c3)]; exact skip fun z => z.2.2.2 (by rw [hy, Int.toNat_natCast]; exact c3)
          · rw [ifp c3]
            have fr : Fr cdR [35] N (mset N 35 c 1) := Fr.rf.set rfl
            have y1 : N 35 y = 1 := by have := hR.1 y (by omega); omega
            have hop : Opn σ c := fun B hB => hB c (by omega) hcF (Or.inr ⟨y, by omega, (hpt_pos hI).mpr ⟨s, by omega, hc, hy, by have := ps.2.2.1; omega⟩, Or.inr (hR.2.1 y (by omega) y1 B hB)⟩)
            have hR2 : RST (mset N 35 c 1) σ := by
              refine ⟨fun x hx2 => ?_, fun x hx2 h1 => ?_, fun x hx2 h1 => ?_, fun x hx2 hF ht => ?_⟩
              · by_cases e : x = c
                · rw [e, mg_s]; exact Or.inr rfl
                · rw [mg_j _ _ _ e]; exact hR.1 x hx2
              · by_cases e : x = c
                · rw [e]; exact hop
                · rw [mg_j _ _ _ e] at h1; exact hR.2.1 x hx2 h1
              · by_cases e : x = c
                · rw [e]; exact hcF
                · rw [mg_j _ _ _ e] at h1; exact hR.2.2.1 x hx2 h1
              · by_cases e : x = c
                · rw [e, mg_s]
                · rw [mg_j _ _ _ e]; exact hR.2.2.2 x hx2 hF ht
            obtain ⟨x', N', z1, z2, z3, z4, z5, z6, z7⟩ := ih (s + 1) g' 1 (mset N 35 c 1) (by omega) hg' (hA.fr fr (by decide)) (fun y hy => by rw [fr 22 y rfl]; exact hW y hy) hR2 (Or.inr rfl)
            refine ⟨x', N', z1, fr.trans z2, z3, z4, fun x hx2 h1 => ?_, fun _ => Or.inr ⟨c, by omega, c1, z5 c (by omega) (mg_s _ _ _ _)⟩, fun e => absurd (z7 e).1 (by decide)⟩
            by_cases e : x = c
            · rw [e]; exact z5 c (by omega) (mg_s _ _ _ _)
            · exact z5 x hx2 (by rw [mg_j _ _ _ e]; exact h1)
theorem RST_end (hI : Inv σ) (hR : RST N σ) (h : ∀ y : Nat, (y : Int) < σ 0 3 → ¬ mrk N σ y) {c : Nat} (hc : (c : Int) < σ 0 1) (hF : isF (σ 1) c = true) : N 35 c = 1 ↔ Opn σ c := by
  have bh := hI.1.2.1
  refine ⟨hR.2.1 c hc, fun ho => ?_⟩
  have hcl : clo σ (fun x => decide ((x : Int) < σ 0 1) && onR N x) := by
    intro x hx hxF ht
    have : N 35 x = 1 := by
      rcases ht with ht | ⟨y, h1, h2, h3⟩
      · exact hR.2.2.2 x hx hxF (Or.inl ht)
      · by_cases c3 : isF (σ 1) y = false
        · exact hR.2.2.2 x hx hxF (Or.inr ⟨y, h1, h2, Or.inl c3⟩)
        · have h4 : onR N y = true := by
            rcases h3 with h3 | h3
            · exact absurd h3 c3
            · simp at h3; exact h3.2
          have h5 : N 35 y = 1 := of_decide_eq_true h4
          obtain ⟨s, s1, s2, s3, s4⟩ := (hpt_pos hI).mp h2
          refine Classical.byContradiction fun hN => h s s1 ⟨?_, by omega, by omega, ?_⟩
          · rw [s2, Int.toNat_natCast]; exact hN
          · rw [s3, Int.toNat_natCast]; omega
    simp [hx, onR, this]
  have := ho _ hcl
  simp [onR] at this
  exact this.2
theorem mes16 {a b r ho : Nat} (h1 : a < b) (h2 : b ≤ ho) (h3 : ho ≤ 16) (hr : 16 - a + 1 ≤ r + 1) : 16 - b + 1 ≤ r := by omega
theorem l_m_reach113 (n : Nat) (hn : 3000 ≤ n) (hI : Inv σ) : ∀ (r g : Nat) (x1 : Int) (N : Mm), (16 - cn (σ 0 1).toNat (onR N)) + 1 ≤ r → r < g → AgR N σ → (∀ s : Nat, (s : Int) < σ 0 3 → N 22 s = (Wh σ s (σ 0 0)).1) → RST N σ → (x1 = 1 ∨ (x1 = 0 ∧ ∀ y : Nat, (y : Int) < σ 0 3 → ¬ mrk N σ y)) → ∃ N', lp_m_findReach_113 n g x1 N = some (0, N') ∧ Fr cdR [35] N N' ∧ RST N' σ ∧ (∀ y : Nat, (y : Int) < σ 0 3 → ¬ mrk N' σ y) := by
  have bh := hI.1.2.1
  have b1 := hI.2.1.1
  intro r
  induction r with
  | zero => intro g x1 N h; omega
  | succ r ih =>
    intro g x1 N hr hg hA hW hR hx
    obtain ⟨g', rfl, hg'⟩ := f_pos hg
    show ∃ N', f_m_findReach_113 n (lp_m_findReach_113 n g') x1 N = _ ∧ _
    unfold f_m_findReach_113
    by_cases c0 : x1 = 0
    · rw [ifp c0]
      exact ⟨N, rfl, Fr.rf, hR, by rcases hx with hx | hx; omega; exact hx.2⟩
    · rw [ifn c0]
      obtain ⟨x', N', z1, z2, z3, z4, z5, z6, z7⟩ := l_m_reach121 n hn hI (lp_m_findReach_113 n g') (σ 0 3).toNat 0 n 0 N (by omega) (by omega) hA hW hR (Or.inl rfl)
      have z1' : lp_m_findReach_121 n (lp_m_findReach_113 n g') n 0 0 N = _ := z1
      rw [z1']
      have hA2 := hA.fr z2 (by decide)
      have hW2 : ∀ s : Nat, (s : Int) < σ 0 3 → N' 22 s = (Wh σ s (σ 0 0)).1 := fun y hy => by rw [z2 22 y rfl]; exact hW y hy
      rcases z4 with e | e
      · have e2 := z7 e
        obtain ⟨g'', rfl, hg''⟩ := f_pos (show 0 < g' by omega)
        rw [e]
        refine ⟨N', ?_, z2, z3, fun y hy => by rw [e2.2.1]; exact e2.2.2 y (Nat.zero_le _) hy⟩
        show f_m_findReach_113 n (lp_m_findReach_113 n g'') 0 N' = _
        unfold f_m_findReach_113
        rw [ifp rfl]
      · rcases z6 e with e3 | ⟨c, k1, k2, k3⟩
        · exact absurd e3 (by decide)
        · have hle := cn_le (onR N') (σ 0 1).toNat
          have hlt : cn (σ 0 1).toNat (onR N) < cn (σ 0 1).toNat (onR N') := by
            have h1 := cn_less (p := fun x => decide ((x : Int) < σ 0 1) && onR N x) (q := fun x => decide ((x : Int) < σ 0 1) && onR N' x) (fun i hi => by
              simp [onR] at hi ⊢
              exact ⟨hi.1, z5 i hi.1 hi.2⟩) (x := c) (k := (σ 0 1).toNat) (by omega) (by simp [onR, k2]) (by simp [onR, k1, k3])
            rw [cn_congr (q := onR N) (fun i hi => by simp; intro _; omega), cn_congr (p := fun x => decide ((x : Int) < σ 0 1) && onR N' x) (q := onR N') (fun i hi => by simp; intro _; omega)] at h1
            exact h1
          obtain ⟨N2, l1, l2, l3, l4⟩ := ih g' x' N' (mes16 hlt hle (by omega) hr) hg' hA2 hW2 z3 (Or.inl e)
          exact ⟨N2, l1, z2.trans l2, l3, l4⟩
/-- a share of c with one that is no firm -/
def outS (σ : Mm) (c s : Nat) : Prop := σ 3 s = (c : Int) ∧ 0 < σ 5 s ∧ 0 ≤ ow σ s (σ 0 0) ∧ isF (σ 1) (ow σ s (σ 0 0)).toNat = false
theorem l_m_reach41 (n : Nat) (hn : 3000 ≤ n) (hI : Inv σ) (k2 : Int → Mm → Rr) {c : Nat} (hc : (c : Int) < σ 0 1) : ∀ (r s g : Nat) (N : Mm), s + r = (σ 0 3).toNat → r < g → AgR N σ → (∀ s : Nat, (s : Int) < σ 0 3 → N 22 s = (Wh σ s (σ 0 0)).1) → ∃ N', lp_m_findReach_41 n k2 g c s N = k2 ((c + 1 : Nat) : Int) N' ∧ Fr cdR [35] N N' ∧ (∀ x, x ≠ c → N' 35 x = N 35 x) ∧ (N' 35 c = N 35 c ∨ N' 35 c = 1) ∧ (N' 35 c = 1 ↔ N 35 c = 1 ∨ ∃ y : Nat, s ≤ y ∧ (y : Int) < σ 0 3 ∧ outS σ c y) := by
  have bh := hI.1.2.1
  have b1 := hI.2.1.1
  have p4 := hI.2.1.2.2.2.1
  intro r
  induction r with
  | zero =>
    intro s g N hs hg hA hW
    obtain ⟨g', rfl, _⟩ := f_pos hg
    show ∃ N', f_m_findReach_41 n k2 (lp_m_findReach_41 n k2 g') c s N = _ ∧ _
    unfold f_m_findReach_41
    rw [ifp (by rw [hA 0 3 rfl]; omega), w_succ (by omega)]
    exact ⟨N, rfl, Fr.rf, fun _ _ => rfl, Or.inl rfl, fun q => Or.inl q, fun q => by
      rcases q with q | ⟨y, h1, h2, _⟩
      · exact q
      · omega⟩
  | succ r ih =>
    intro s g N hs hg hA hW
    obtain ⟨g', rfl, hg'⟩ := f_pos hg
    show ∃ N', f_m_findReach_41 n k2 (lp_m_findReach_41 n k2 g') c s N = _ ∧ _
    have q := ow_in hI (s := s) (by omega) (σ 0 0)
    have ps := p4 s (by omega)
    have skip : ¬ outS σ c s → ∃ N', lp_m_findReach_41 n k2 g' c ((s + 1 : Nat) : Int) N = k2 ((c + 1 : Nat) : Int) N' ∧ Fr cdR [35] N N' ∧ (∀ x, x ≠ c → N' 35 x = N 35 x) ∧ (N' 35 c = N 35 c ∨ N' 35 c = 1) ∧ (N' 35 c = 1 ↔ N 35 c = 1 ∨ ∃ y : Nat, s ≤ y ∧ (y : Int) < σ 0 3 ∧ outS σ c y) := by
      intro ho
      obtain ⟨N', z1, z2, z3, z4, z5⟩ := ih (s + 1) g' N (by omega) hg' hA hW
      refine ⟨N', z1, z2, z3, z4, z5.trans ⟨fun q => q.imp id fun ⟨y, h1, h2⟩ => ⟨y, by omega, h2⟩, fun q => q.imp id fun ⟨y, h1, h2, h3⟩ => ⟨y, ?_, h2, h3⟩⟩⟩
      by_cases e : y = s
      · rw [e] at h3; exact absurd h3 ho
      · omega
    unfold f_m_findReach_41 f_m_findReach_99
    simp only [ifn (show ¬ N 0 3 ≤ (s : Int) by rw [hA 0 3 rfl]; omega), ckp (show (0 : Int) ≤ (s : Int) ∧ (s : Int) < 40 by omega), Int.toNat_natCast, hA.row (k := 1) (fun _ => rfl), hA.row (k := 3) (fun _ => rfl), hA.row (k := 5) (fun _ => rfl), hW s (by omega), w_succ (show s < 2000000000 by omega)]
    by_cases c1 : σ 3 s = (c : Int)
    · rw [ifn (fun z => z c1)]
      by_cases c2 : σ 5 s ≤ 0
      · rw [ifp c2]; exact skip fun z => by have := z.2.1; omega
      · rw [ifn c2]
        rcases q with q | q
        · rw [ifp (by omega)]; exact skip fun z => by have := z.2.2.1; omega
        · rw [ifn (by omega), ← q.2.2.1]
          obtain ⟨y, hy⟩ := nat_of q.1
          rw [hy, ckp (by omega), Int.toNat_natCast]
          by_cases c3 : σ 1 y = 1
          · rw [ifp c3]; exact skip fun z => by have := z.2.2.2; rw [hy, Int.toNat_natCast, isF_of c3] at this; cases this
          · rw [ifn c3, ckp (by omega)]
            have fr : Fr cdR [35] N (mset N 35 c 1) := Fr.rf.set rfl
            obtain ⟨N', z1, z2, z3, z4, z5⟩ := ih (s + 1) g' (mset N 35 c 1) (by omega) hg' (hA.fr fr (by decide)) (fun y hy => by rw [fr 22 y rfl]; exact hW y hy)
            have h1 : N' 35 c = 1 := z5.mpr (Or.inl (mg_s _ _ _ _))
            refine ⟨N', z1, fr.trans z2, fun x hx => by rw [z3 x hx, mg_j _ _ _ hx], Or.inr h1, fun _ => Or.inr ⟨s, Nat.le_refl _, by omega, c1, by omega, q.1, ?_⟩, fun _ => h1⟩
            rw [hy, Int.toNat_natCast]
            exact decide_eq_false c3
    · rw [ifp c1]; exact skip fun z => c1 z.1
theorem e_m_findReach (n : Nat) (hn : 3000 ≤ n) (hI : Inv σ) (hA : AgR N σ) (hW : ∀ s : Nat, (s : Int) < σ 0 3 → N 22 s = (Wh σ s (σ 0 0)).1) : ∃ N', f_m_findReach n N = some (0, N') ∧ Fr cdR [35] N N' ∧ (∀ c : Nat, (c : Int) < σ 0 1 → N' 35 c = 0 ∨ N' 35 c = 1) ∧ ∀ c : Nat, (c : Int) < σ 0 1 → isF (σ 1) c = true → (N' 35 c = 1 ↔ Opn σ c) := by
  have bh := hI.1.2.1
  have b1 := hI.2.1.1
  have p4 := hI.2.1.2.2.2.1
  have go : ∀ (r c g : Nat) (N : Mm), c + r = (σ 0 1).toNat → r < g → AgR N σ → (∀ s : Nat, (s : Int) < σ 0 3 → N 22 s = (Wh σ s (σ 0 0)).1) → (∀ x : Nat, x < c → (N 35 x = 0 ∨ N 35 x = 1) ∧ (N 35 x = 1 ↔ isF (σ 1) x = true ∧ tOp σ (fun _ => false) x)) → ∃ N', lp_m_findReach_2 n g c N = some (0, N') ∧ Fr cdR [35] N N' ∧ (∀ c : Nat, (c : Int) < σ 0 1 → N' 35 c = 0 ∨ N' 35 c = 1) ∧ ∀ c : Nat, (c : Int) < σ 0 1 → isF (σ 1) c = true → (N' 35 c = 1 ↔ Opn σ c) := by
    intro r
    induction r with
    | zero =>
      intro c g N hc hg hA hW hP
      obtain ⟨g', rfl, _⟩ := f_pos hg
      show ∃ N', f_m_findReach_2 n (lp_m_findReach_2 n g') c N = _ ∧ _
      unfold f_m_findReach_2
      rw [ifp (by rw [hA 0 1 rfl]; omega)]
      have hR : RST N σ := ⟨fun x hx => (hP x (by omega)).1, fun x hx h1 => by
          have := (hP x (by omega)).2.mp h1
          exact tOp_sound (fun y hy => by cases hy) hx this.1 this.2, fun x hx h1 => ((hP x (by omega)).2.mp h1).1, fun x hx h1 h2 => (hP x (by omega)).2.mpr ⟨h1, h2⟩⟩
      obtain ⟨N', z1, z2, z3, z4⟩ := l_m_reach113 n hn hI 17 n 1 N (by omega) (by omega) hA hW hR (Or.inl rfl)
      exact ⟨N', z1, z2, z3.1, fun c h1 h2 => RST_end hI z3 z4 h1 h2⟩
    | succ r ih =>
      intro c g N hc hg hA hW hP
      obtain ⟨g', rfl, hg'⟩ := f_pos hg
      show ∃ N', f_m_findReach_2 n (lp_m_findReach_2 n g') c N = _ ∧ _
      have next : ∀ v : Int, (v = 0 ∨ v = 1) → (v = 1 ↔ isF (σ 1) c = true ∧ 0 < 12 - hpa σ c (σ 0 3).toNat) → ∃ N', lp_m_findReach_41 n (lp_m_findReach_2 n g') n c 0 (mset N 35 c v) = some (0, N') ∧ Fr cdR [35] N N' ∧ (∀ c : Nat, (c : Int) < σ 0 1 → N' 35 c = 0 ∨ N' 35 c = 1) ∧ ∀ c : Nat, (c : Int) < σ 0 1 → isF (σ 1) c = true → (N' 35 c = 1 ↔ Opn σ c) := by
        intro v hv hv2
        have fr : Fr cdR [35] N (mset N 35 c v) := Fr.rf.set rfl
        obtain ⟨N1, z1, z2, z3, z4, z5⟩ := l_m_reach41 n hn hI (lp_m_findReach_2 n g') (c := c) (by omega) (σ 0 3).toNat 0 n (mset N 35 c v) (by omega) (by omega) (hA.fr fr (by decide)) (fun y hy => by rw [fr 22 y rfl]; exact hW y hy)
        have z1' : lp_m_findReach_41 n (lp_m_findReach_2 n g') n c 0 (mset N 35 c v) = _ := z1
        rw [z1']
        have f2 := fr.trans z2
        obtain ⟨N2, l1, l2, l3⟩ := ih (c + 1) g' N1 (by omega) hg' (hA.fr f2 (by decide)) (fun y hy => by rw [f2 22 y rfl]; exact hW y hy) (fun x hx => by
          by_cases e : x = c
          · subst e
            rw [mg_s] at z4 z5
            refine ⟨by rcases z4 with z4 | z4 <;> omega, z5.trans ⟨fun q => ?_, fun q => ?_⟩⟩
            · rcases q with q | ⟨y, h1, h2, h3⟩
              · exact ⟨(hv2.mp q).1, Or.inl (hv2.mp q).2⟩
              · have py := p4 y (by omega)
                have qy := ow_in hI (s := y) (by omega) (σ 0 0)
                have o1 := h3.1
                have o2 := h3.2.1
                have o3 := h3.2.2.1
                refine ⟨isF_of (by have := py.1.2.2; rw [o1, Int.toNat_natCast] at this; exact this), Or.inr ⟨(ow σ y (σ 0 0)).toNat, by omega, (hpt_pos hI).mpr ⟨y, h2, o1, by omega, o2⟩, Or.inl h3.2.2.2⟩⟩
            · rcases q.2 with q2 | ⟨y, h1, h2, h3⟩
              · exact Or.inl (hv2.mpr ⟨q.1, q2⟩)
              · obtain ⟨s, s1, s2, s3, s4⟩ := (hpt_pos hI).mp h2
                rcases h3 with h3 | h3
                · exact Or.inr ⟨s, Nat.zero_le _, s1, s2, s4, by omega, by rw [s3, Int.toNat_natCast]; exact h3⟩
                · cases h3
          · rw [z3 x e, mg_j _ _ _ e]; exact hP x (by omega))
        exact ⟨N2, l1, f2.trans l2, l3⟩
      unfold f_m_findReach_2 f_m_findReach_37 f_m_findReach_38
      simp only [ifn (show ¬ N 0 1 ≤ (c : Int) by rw [hA 0 1 rfl]; omega), ckp (show (0 : Int) ≤ (c : Int) ∧ (c : Int) < 16 by omega), Int.toNat_natCast, hA.row (k := 1) (fun _ => rfl), e_m_missing n hn hI hA hW c, bnd_mk]
      by_cases c1 : σ 1 c = 1
      · rw [ifn (fun z => z c1)]
        by_cases c2 : 12 - hpa σ c (σ 0 3).toNat ≤ 0
        · rw [ifp c2]; exact next 0 (Or.inl rfl) ⟨fun q => by omega, fun q => by omega⟩
        · rw [ifn c2]; exact next 1 (Or.inr rfl) ⟨fun _ => ⟨isF_of c1, by omega⟩, fun _ => rfl⟩
      · rw [ifp c1]; exact next 0 (Or.inl rfl) ⟨fun q => by omega, fun q => absurd (of_decide_eq_true q.1) c1⟩
  exact go (σ 0 1).toNat 0 n N (by omega) (by omega) hA hW (fun x hx => absurd hx (Nat.not_lt_zero x))
theorem q_hollow (n : Nat) (hn : 3000 ≤ n) (f : Int) (hJ : J M N) : Sim (f_W_hollow n f M) (f_m_hollow n f N) := by
  have hJ0 := hJ
  obtain ⟨σ, hI, hA, hC⟩ := hJ
  have b := hI.1.2.1
  have a1 : N 0 1 = σ 0 1 := hA 0 1 rfl
  unfold f_W_hollow f_m_hollow f_F_isHollow
  simp only [e_R_isFirm n M f (by rw [hC.1.2.1]; exact b.2), e_m_isFirm n N f (by rw [a1]; exact b), bnd_mk, a1, hC.1.2.1, hC.1.2.2.2.2.2.1, hA.row (k := 1) (fun _ => rfl)]
  by_cases c2 : 0 ≤ f ∧ f < σ 0 1 ∧ σ 1 f.toNat = 1
  · obtain ⟨x, rfl⟩ := nat_of c2.1
    have hF : isF (σ 1) x = true := isF_of (by have := c2.2.2; rw [Int.toNat_natCast] at this; exact this)
    obtain ⟨M1, g1, g2, g3, g4⟩ := e_F_load n hn hI hC
    have hC1 := hC.fr g2 (by decide)
    obtain ⟨x', k1, k2, k3, k4⟩ := e_F_openFirms n hn hI hC1 g3
    obtain ⟨N1, l1, l2, l3⟩ := e_m_layOut n hn hI hA (σ 0 0)
    have hA1 := hA.fr l2 (by decide)
    obtain ⟨N2, m1, m2, m3, m4⟩ := e_m_findReach n hn hI hA1 (fun s hs => (l3 s hs).1)
    have hA2 := hA1.fr m2 (by decide)
    have hJ2 : J M1 N2 := ⟨σ, hI, hA2, hC1⟩
    simp only [ifp c2, n1]
    simp only [hA 0 0 rfl, g1, k1, l1, m1, bnd_mk, bit_I (show x < 32 by omega), ckp (show (0 : Int) ≤ (x : Int) ∧ (x : Int) < 16 by omega), Int.toNat_natCast]
    by_cases c : Opn σ x
    · have e1 := k4 x c2.2.1 hF c
      have e2 := (m4 x c2.2.1 hF).mpr c
      rw [ifp e1, n1, bnd_mk, i0, ifn (fun z => z e2)]
      exact Sim.same hJ2 _
    · have e1 : ¬ bI x' x = true := fun z => c (k3 x z)
      have e2 : N2 35 x ≠ 1 := fun z => c ((m4 x c2.2.1 hF).mp z)
      rw [ifn e1, n0, bnd_mk, i1, ifp e2]
      exact Sim.same hJ2 _
  · simp only [ifn c2, n0]; exact Sim.same hJ0 _
end
