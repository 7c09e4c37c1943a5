/-! What coin goes on: the matrix of a listing of the open firms. -/
section
variable {σ : Mm} {M N : Mm} {n : Nat} {o : Nat → Nat}
theorem Opn_F {c : Nat} (h : Opn σ c) : (c : Int) < σ 0 1 ∧ isF (σ 1) c = true := by
  have := h (fun x => decide ((x : Int) < σ 0 1) && isF (σ 1) x) (fun c h1 h2 _ => by show (decide ((c : Int) < σ 0 1) && isF (σ 1) c) = true; rw [decide_eq_true h1, h2]; rfl)
  simp at this
  exact this
/-- a listing of the open firms -/
def LST (σ : Mm) (n : Nat) (o : Nat → Nat) : Prop := (∀ i, i < n → Opn σ (o i)) ∧ (∀ i j, i < n → j < n → o i = o j → i = j) ∧ ∀ c, Opn σ c → ∃ i, i < n ∧ o i = c
/-- what of firm c comes to h directly -/
def hp (σ : Mm) (c h : Nat) : Int := hpt σ c h (σ 0 3).toNat
def AMx (σ : Mm) (n : Nat) (o : Nat → Nat) (hld : Nat) : Nat → Nat → Int := fun i j => if j < n then (if i = j then 12 else 0) - hp σ (o i) (o j) else hp σ (o i) hld
theorem hp_nn (hI : Inv σ) (c h : Nat) : 0 ≤ hp σ c h := (hpt_in hI c h (by have := hI.2.1.1; omega)).1
theorem hpa_sum (hI : Inv σ) (c : Nat) : ∀ k : Nat, (k : Int) ≤ σ 0 3 → hpa σ c k = sm (σ 0 1).toNat (fun h => hpt σ c h k)
  | 0, _ => (sm_zero fun _ _ => rfl).symm
  | k + 1, hk => by
    have q := ow_in hI (s := k) (by omega) (σ 0 0)
    have e1 : hpa σ c (k + 1) = hpa σ c k + (if σ 3 k = (c : Int) ∧ 0 ≤ ow σ k (σ 0 0) then σ 5 k else 0) := rfl
    have e2 : sm (σ 0 1).toNat (fun h => hpt σ c h (k + 1)) = sm (σ 0 1).toNat (fun h => hpt σ c h k + (if h = (ow σ k (σ 0 0)).toNat then (if σ 3 k = (c : Int) ∧ 0 ≤ ow σ k (σ 0 0) then σ 5 k else 0) else 0)) := sm_congr fun h hh => by
      have e3 : hpt σ c h (k + 1) = hpt σ c h k + (if σ 3 k = (c : Int) ∧ ow σ k (σ 0 0) = (h : Int) then σ 5 k else 0) := rfl
      rw [e3]
      congr 1
      by_cases w : h = (ow σ k (σ 0 0)).toNat
      · rw [ifp w]
        by_cases z : σ 3 k = (c : Int) ∧ 0 ≤ ow σ k (σ 0 0)
        · rw [ifp z, ifp ⟨z.1, by omega⟩]
        · rw [ifn z, ifn (fun y => z ⟨y.1, by omega⟩)]
      · rw [ifn w, ifn (fun y => w (by omega))]
    rw [e1, e2, sm_add, hpa_sum hI c k (by omega)]
    congr 1
    rcases q with q | q
    · rw [ifn (by omega)]
      refine (sm_zero fun h _ => ?_).symm
      split <;> rfl
    · rw [sm_pt _ _ (by omega)]
theorem hpa_12 (hI : Inv σ) (c : Nat) : hpa σ c (σ 0 3).toNat ≤ 12 := by
  have h := hI.2.1.2.2.2.2.2.2 (c : Int)
  have p4 := hI.2.1.2.2.2.1
  have b := hI.2.1.1
  have h2 : hpa σ c (σ 0 3).toNat ≤ sm (σ 0 3).toNat (fun s => if σ 3 s = (c : Int) then σ 5 s else 0) := sm_le fun s hs => by
    have := (p4 s (by omega)).2.2.1
    by_cases q : σ 3 s = (c : Int)
    · rw [ifp q]; split <;> omega
    · rw [ifn q, ifn (fun z => q z.1)]; omega
  omega
/-- a sum over some is no more than over all -/
theorem sm_inj {m : Nat} : ∀ (n : Nat) (o : Nat → Nat) (g : Nat → Int), (∀ x, 0 ≤ g x) → (∀ i, i < n → o i < m) → (∀ i j, i < n → j < n → o i = o j → i = j) → sm n (fun i => g (o i)) ≤ sm m g
  | 0, _, g, hg, _, _ => sm_nn fun i _ => hg i
  | n + 1, o, g, hg, ho, hi => by
    have I := sm_inj (m := m) n o (fun x => if x = o n then 0 else g x) (fun x => by show 0 ≤ (if x = o n then 0 else g x); split; exact Int.le_refl 0; exact hg x) (fun i h => ho i (by omega)) (fun i j h1 h2 => hi i j (by omega) (by omega))
    have e1 : sm n (fun i => (if o i = o n then 0 else g (o i))) = sm n (fun i => g (o i)) := sm_congr fun i h => by
      rw [ifn (fun z => by have := hi i n (by omega) (by omega) z; omega)]
    have e2 := sm_upd g (o n) 0 m
    rw [ifp (ho n (by omega))] at e2
    have e3 : sm (n + 1) (fun i => g (o i)) = sm n (fun i => g (o i)) + g (o n) := rfl
    have I' : sm n (fun i => (if o i = o n then 0 else g (o i))) ≤ sm m (fun x => if x = o n then 0 else g x) := I
    omega
theorem sm_inj1 {m : Nat} {n : Nat} {o : Nat → Nat} {g : Nat → Int} (hg : ∀ x, 0 ≤ g x) (ho : ∀ i, i < n → o i < m) (hi : ∀ i j, i < n → j < n → o i = o j → i = j) {h : Nat} (hh : h < m) (hn : ∀ i, i < n → o i ≠ h) : sm n (fun i => g (o i)) + g h ≤ sm m g := by
  have I := sm_inj (m := m) n o (fun x => if x = h then 0 else g x) (fun x => by show 0 ≤ (if x = h then 0 else g x); split; exact Int.le_refl 0; exact hg x) ho hi
  have e1 : sm n (fun i => (if o i = h then 0 else g (o i))) = sm n (fun i => g (o i)) := sm_congr fun i q => by rw [ifn (hn i q)]
  have e2 := sm_upd g h 0 m
  rw [ifp hh] at e2
  have I' : sm n (fun i => (if o i = h then 0 else g (o i))) ≤ sm m (fun x => if x = h then 0 else g x) := I
  omega
/-- a sum over a listing is a sum over those listed -/
theorem sm_lst {m : Nat} : ∀ (n : Nat) (o : Nat → Nat) (P : Nat → Bool) (f : Nat → Int), (∀ i, i < n → o i < m ∧ P (o i) = true) → (∀ i j, i < n → j < n → o i = o j → i = j) → (∀ c, c < m → P c = true → ∃ i, i < n ∧ o i = c) → sm n (fun i => f (o i)) = sm m (fun h => if P h = true then f h else 0)
  | 0, o, P, f, _, _, hs => by
    refine (sm_zero fun h hh => ?_).symm
    rw [ifn (fun z => by obtain ⟨i, i1, _⟩ := hs h hh z; exact absurd i1 (Nat.not_lt_zero i))]
  | n + 1, o, P, f, ho, hi, hs => by
    have I := sm_lst (m := m) n o (fun x => P x && decide (x ≠ o n)) f (fun i h => ⟨(ho i (by omega)).1, by
      have hne : o i ≠ o n := fun z => by have := hi i n (by omega) (by omega) z; omega
      show (P (o i) && decide (o i ≠ o n)) = true
      rw [(ho i (by omega)).2, decide_eq_true hne]; rfl⟩) (fun i j h1 h2 => hi i j (by omega) (by omega)) (fun c hc hP => by
      rw [Bool.and_eq_true, decide_eq_true_eq] at hP
      obtain ⟨i, i1, i2⟩ := hs c hc hP.1
      refine ⟨i, ?_, i2⟩
      have : i ≠ n := fun z => hP.2 (by rw [← i2, z])
      omega)
    have hn := ho n (by omega)
    have e1 : sm m (fun h => if P h = true then f h else 0) = sm m (fun h => (if (P h && decide (h ≠ o n)) = true then f h else 0) + (if h = o n then f (o n) else 0)) := sm_congr fun h _ => by
      by_cases q : h = o n
      · rw [q, hn.2, decide_eq_false (fun z => z rfl), ifp rfl, ifp rfl, ifn (by decide), Int.zero_add]
      · rw [decide_eq_true q, Bool.and_true, ifn q, Int.add_zero]
    rw [e1, sm_add, sm_pt _ _ hn.1, ← I]
    rfl
theorem row_12 (hI : Inv σ) (hL : LST σ n o) (c : Nat) : sm n (fun j => hp σ c (o j)) ≤ hpa σ c (σ 0 3).toNat := by
  have b := hI.2.1.1
  rw [hpa_sum hI c (σ 0 3).toNat (by omega)]
  exact sm_inj n o (fun h => hp σ c h) (fun x => hp_nn hI c x) (fun i hi => by have := (Opn_F (hL.1 i hi)).1; omega) hL.2.1
theorem row_12h (hI : Inv σ) (hL : LST σ n o) (c : Nat) {h : Nat} (hh : (h : Int) < σ 0 1) (hF : isF (σ 1) h = false) : sm n (fun j => hp σ c (o j)) + hp σ c h ≤ hpa σ c (σ 0 3).toNat := by
  have b := hI.2.1.1
  rw [hpa_sum hI c (σ 0 3).toNat (by omega)]
  exact sm_inj1 (g := fun h => hp σ c h) (fun x => hp_nn hI c x) (fun i hi => by have := (Opn_F (hL.1 i hi)).1; omega) hL.2.1 (by omega) fun i hi e => by
    have := (Opn_F (hL.1 i hi)).2
    rw [e, hF] at this; cases this
theorem AM_row {hld i : Nat} (hi : i < n) : sm n (AMx σ n o hld i) = 12 - sm n (fun j => hp σ (o i) (o j)) := by
  have e : sm n (AMx σ n o hld i) = sm n (fun j => (if j = i then 12 else 0) + -1 * hp σ (o i) (o j)) := sm_congr fun j hj => by
    unfold AMx
    rw [ifp hj]
    by_cases q : i = j
    · rw [ifp q, ifp q.symm]; omega
    · rw [ifn q, ifn (fun z => q z.symm)]; omega
  rw [e, sm_add, sm_pt _ _ hi, sm_mul]
  omega
theorem AM_mm (hI : Inv σ) (hL : LST σ n o) {hld : Nat} : MMx (AMx σ n o hld) n := by
  refine ⟨fun i j hi hj hne => ?_, fun i hi => ?_, fun i hi => ?_, fun S hS => ?_⟩
  · unfold AMx
    rw [ifp hj, ifn hne]
    have := hp_nn hI (o i) (o j)
    omega
  · unfold AMx
    rw [ifn (Nat.lt_irrefl n)]
    exact hp_nn hI (o i) hld
  · rw [AM_row hi]
    have := row_12 hI hL (o i)
    have := hpa_12 hI (o i)
    omega
  · obtain ⟨i0, h0, hS0⟩ := hS
    apply Classical.byContradiction
    intro no
    have c1 : ∀ i, i < n → S i → 12 ≤ sm n (fun j => hp σ (o i) (o j)) := fun i hi hs => Classical.byContradiction fun q => no ⟨i, hi, hs, Or.inl (by rw [AM_row hi]; omega)⟩
    have c2 : ∀ i j, i < n → S i → j < n → ¬ S j → hp σ (o i) (o j) = 0 := fun i j hi hs hj hn => Classical.byContradiction fun q => no ⟨i, hi, hs, Or.inr ⟨j, hj, hn, by
      have := hp_nn hI (o i) (o j)
      have hne : i ≠ j := fun z => hn (by rw [← z]; exact hs)
      unfold AMx
      rw [ifp hj, ifn hne]; omega⟩⟩
    let B : Nat → Bool := fun c => @decide (Opn σ c ∧ ¬ ∃ i, i < n ∧ S i ∧ o i = c) (Classical.propDecidable _)
    have hB : ∀ c, B c = true ↔ (Opn σ c ∧ ¬ ∃ i, i < n ∧ S i ∧ o i = c) := fun c => @decide_eq_true_iff _ (Classical.propDecidable _)
    have hcl : clo σ B := fun c hc hF ht => by
      have hO : Opn σ c := tOp_sound (B := B) (fun y hy => ((hB y).mp hy).1) hc hF ht
      refine (hB c).mpr ⟨hO, fun ⟨i, i1, i2, i3⟩ => ?_⟩
      have r1 := c1 i i1 i2
      have r2 := row_12 hI hL (o i)
      have r3 := hpa_12 hI (o i)
      rw [i3] at r1 r2 r3
      rcases ht with q | ⟨h, h1, h2, h3⟩
      · omega
      · by_cases w : isF (σ 1) h = false
        · have := row_12h hI hL c h1 w
          have h2' : 0 < hp σ c h := h2
          omega
        · have hb := (hB h).mp (h3.resolve_left w)
          obtain ⟨j, j1, j2⟩ := hL.2.2 h hb.1
          have := c2 i j i1 i2 j1 (fun z => hb.2 ⟨j, j1, z, j2⟩)
          rw [i3, j2] at this
          have h2' : 0 < hp σ c h := h2
          omega
    exact ((hB (o i0)).mp ((hL.1 i0 h0) B hcl)).2 ⟨i0, h0, hS0, rfl⟩
theorem AM_nrm (hI : Inv σ) (hL : LST σ n o) {hld : Nat} (hh : (hld : Int) < σ 0 1) (hF : isF (σ 1) hld = false) : NRM (AMx σ n o hld) n := by
  intro i hi
  have e1 : sm (n + 1) (fun c => abI (AMx σ n o hld i c)) = sm n (fun c => abI (AMx σ n o hld i c)) + abI (AMx σ n o hld i n) := rfl
  have e2 : abI (AMx σ n o hld i n) = hp σ (o i) hld := by
    unfold AMx abI
    have := hp_nn hI (o i) hld
    rw [ifn (Nat.lt_irrefl n), ifn (by omega)]
  have e3 : sm n (fun c => abI (AMx σ n o hld i c)) ≤ sm n (fun j => (if j = i then 12 else 0) + hp σ (o i) (o j)) := sm_le fun j hj => by
    have := hp_nn hI (o i) (o j)
    unfold AMx abI
    rw [ifp hj]
    by_cases q : i = j
    · rw [ifp q, ifp q.symm]; split <;> omega
    · rw [ifn q, ifn (show ¬ j = i from fun z => q z.symm)]; split <;> omega
  rw [sm_add, sm_pt _ _ hi] at e3
  have := row_12h hI hL (o i) hh hF
  have := hpa_12 hI (o i)
  omega
noncomputable def oPb (σ : Mm) : Nat → Bool := fun c => @decide (Opn σ c) (Classical.propDecidable _)
theorem oPb_t {c : Nat} : oPb σ c = true ↔ Opn σ c := @decide_eq_true_iff _ (Classical.propDecidable _)
/-- an equation, by holders -/
theorem AM_eq (hI : Inv σ) (hL : LST σ n o) {hld : Nat} (Y : Nat → Int) {i : Nat} (hi : i < n) : sm n (fun t => AMx σ n o hld i t * Y (o t)) = 12 * Y (o i) - sm (σ 0 1).toNat (fun h => if oPb σ h = true then hp σ (o i) h * Y h else 0) := by
  have e : sm n (fun t => AMx σ n o hld i t * Y (o t)) = sm n (fun t => (if t = i then 12 * Y (o i) else 0) + -1 * (hp σ (o i) (o t) * Y (o t))) := sm_congr fun t ht => by
    unfold AMx
    rw [ifp ht]
    by_cases q : i = t
    · rw [ifp q, ifp q.symm, q]; grind
    · rw [ifn q, ifn (fun z => q z.symm)]; grind
  rw [e, sm_add, sm_pt _ _ hi, sm_mul, sm_lst (m := (σ 0 1).toNat) n o (oPb σ) (fun h => hp σ (o i) h * Y h) (fun i hi => ⟨by have := (Opn_F (hL.1 i hi)).1; omega, oPb_t.mpr (hL.1 i hi)⟩) hL.2.1 (fun c _ hP => hL.2.2 c (oPb_t.mp hP))]
  omega
/-- what one listing finds is what another finds -/
theorem AM_two (hI : Inv σ) {o' : Nat → Nat} (hL : LST σ (n + 1) o) (hL' : LST σ (n + 1) o') {hld : Nat} {k : Nat} (hk : k < n + 1) (hok : o k = o' n) : Bm (AMx σ (n + 1) o' hld) n n n * Gmn (AMx σ (n + 1) o hld) (n + 1) k (n + 1) = Dk (AMx σ (n + 1) o hld) (n + 1) * Bm (AMx σ (n + 1) o' hld) n n (n + 1) := by
  have hD : ∀ s, s ≤ n + 1 → Dk (AMx σ (n + 1) o hld) s ≠ 0 := fun s hs => by
    have := (MK_all (AM_mm hI hL (hld := hld)) (n + 1) (Nat.le_refl _)).2.2.2.2 s hs
    omega
  -- the solution, by firms
  have hY : ∃ Y : Nat → Int, ∀ i, i < n + 1 → Y (o i) = Gmn (AMx σ (n + 1) o hld) (n + 1) i (n + 1) := by
    refine ⟨fun c => Gmn (AMx σ (n + 1) o hld) (n + 1) (fsn (n + 1) (fun i => decide (o i = c))) (n + 1), fun i hi => ?_⟩
    have : fsn (n + 1) (fun x => decide (o x = o i)) = i := fsn_eq hi (decide_eq_true rfl) fun j hj => decide_eq_false fun z => by have := hL.2.1 j i (by omega) hi z; omega
    show Gmn _ _ (fsn (n + 1) (fun x => decide (o x = o i))) _ = _
    rw [this]
  obtain ⟨Y, hY⟩ := hY
  have eq1 : ∀ c, Opn σ c → 12 * Y c - sm (σ 0 1).toNat (fun h => if oPb σ h = true then hp σ c h * Y h else 0) = hp σ c hld * Dk (AMx σ (n + 1) o hld) (n + 1) := fun c hc => by
    obtain ⟨i, i1, i2⟩ := hL.2.2 c hc
    have h1 := AM_eq hI hL (hld := hld) Y i1
    have h2 := cramer (A := AMx σ (n + 1) o hld) hD (n + 1) i1
    have h3 : sm (n + 1) (fun t => AMx σ (n + 1) o hld i t * Y (o t)) = sm (n + 1) (fun t => AMx σ (n + 1) o hld i t * Gmn (AMx σ (n + 1) o hld) (n + 1) t (n + 1)) := sm_congr fun t ht => by rw [hY t ht]
    have h4 : AMx σ (n + 1) o hld i (n + 1) = hp σ (o i) hld := by unfold AMx; rw [ifn (Nat.lt_irrefl _)]
    rw [i2] at h1
    rw [← h1, h3, h2, h4, i2]
  -- as columns of the other
  have h5 := F_comb (A := AMx σ (n + 1) o' hld) (Bv_lin (A := AMx σ (n + 1) o' hld) n n) 0 (fun _ => 0) (fun t => Y (o' t)) (n + 1)
  have e1 : sm (n + 1) (fun t => Y (o' t) * Bv (AMx σ (n + 1) o' hld) n n (fun r => AMx σ (n + 1) o' hld r t)) = Y (o' n) * Bm (AMx σ (n + 1) o' hld) n n n := by
    show sm n (fun t => Y (o' t) * Bv (AMx σ (n + 1) o' hld) n n (fun r => AMx σ (n + 1) o' hld r t)) + Y (o' n) * Bv (AMx σ (n + 1) o' hld) n n (fun r => AMx σ (n + 1) o' hld r n) = _
    rw [sm_zero fun t ht => by
      have : Bv (AMx σ (n + 1) o' hld) n n (fun r => AMx σ (n + 1) o' hld r t) = 0 := Bm_lt ht
      rw [this, Int.mul_zero], Int.zero_add]
    rfl
  have e2 : Bv (AMx σ (n + 1) o' hld) n n (fun r => 0 * 0 + sm (n + 1) (fun t => Y (o' t) * AMx σ (n + 1) o' hld r t)) = Bv (AMx σ (n + 1) o' hld) n n (fun r => Dk (AMx σ (n + 1) o hld) (n + 1) * AMx σ (n + 1) o' hld r (n + 1) + 0 * AMx σ (n + 1) o' hld r (n + 1)) := dtm_congr fun r c hr hc => by
    show (if c = n then (0 * 0 + sm (n + 1) (fun t => Y (o' t) * AMx σ (n + 1) o' hld (rwi n n r) t)) else AMx σ (n + 1) o' hld (rwi n n r) c) = (if c = n then (Dk (AMx σ (n + 1) o hld) (n + 1) * AMx σ (n + 1) o' hld (rwi n n r) (n + 1) + 0 * AMx σ (n + 1) o' hld (rwi n n r) (n + 1)) else AMx σ (n + 1) o' hld (rwi n n r) c)
    rw [rwi_k hr]
    by_cases q : c = n
    · rw [ifp q, ifp q]
      have h6 := AM_eq hI hL' (hld := hld) Y hr
      rw [eq1 _ (hL'.1 r hr)] at h6
      have h7 : sm (n + 1) (fun t => Y (o' t) * AMx σ (n + 1) o' hld r t) = sm (n + 1) (fun t => AMx σ (n + 1) o' hld r t * Y (o' t)) := sm_congr fun t _ => Int.mul_comm _ _
      have h8 : AMx σ (n + 1) o' hld r (n + 1) = hp σ (o' r) hld := by unfold AMx; rw [ifn (Nat.lt_irrefl _)]
      rw [h7, h6, h8]
      grind
    · rw [ifn q, ifn q]
  rw [e2, e1, Bv_lin] at h5
  have h9 : Bv (AMx σ (n + 1) o' hld) n n (fun r => AMx σ (n + 1) o' hld r (n + 1)) = Bm (AMx σ (n + 1) o' hld) n n (n + 1) := rfl
  rw [h9] at h5
  have h10 := hY k hk
  rw [hok] at h10
  rw [← h10]
  grind
end
