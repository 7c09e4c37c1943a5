/-! Whether a vote sleeps; what a share weighs: the class. -/
def encN : List Bool → Nat
  | [] => 0
  | b :: r => 2 * encN r + b.toNat
theorem encN_lt : ∀ st : List Bool, encN st < 2 ^ st.length
  | [] => by decide
  | b :: r => by
    have h := encN_lt r
    have hb := btn b
    show 2 * encN r + b.toNat < 2 ^ (r.length + 1)
    rw [Nat.pow_succ]; omega
theorem encN_31 {st : List Bool} {k : Nat} (h : st.length ≤ k) : encN st < 2 ^ k := Nat.lt_of_lt_of_le (encN_lt st) (Nat.pow_le_pow_right (by decide) h)
theorem cl_ok {σ : Mm} (hI : Inv σ) {k : Nat} (hk : (k : Int) < σ 0 18) : (∀ i, i < (CL σ k).length → okCl (cAt (CL σ k) i)) ∧ (CL σ k).length ≤ 6 ∧ 1 ≤ (CL σ k).length := by
  obtain ⟨_, _, q, l, h⟩ := hI.2.2.1.2.2.2 k hk
  rw [CL_eq h]
  exact sGo_ok h
theorem cC_ok {σ : Mm} (hI : Inv σ) (f : Int) (w : Nat) (d : Int) (h : 0 ≤ kk σ f w d) : okCl (cC σ f w d) ∧ (cC σ f w d).1 = w := by
  have b := hI.2.2.1.1
  have bi := bst_in σ f w d (σ 0 18).toNat
  have ed : kk σ f w d = bst σ f w d (σ 0 18).toNat := rfl
  rw [← ed] at bi
  have l1 := lw_in (CL σ (kk σ f w d).toNat) w (CL σ (kk σ f w d).toNat).length
  have l2 := bi.2.2 h
  have le : lwk σ (kk σ f w d).toNat w = lw (CL σ (kk σ f w d).toNat) w (CL σ (kk σ f w d).toNat).length := rfl
  rw [← le] at l1
  exact ⟨(cl_ok hI (by omega)).1 _ (by omega), l1.2.2 l2⟩
theorem fi_in {σ : Mm} (hI : Inv σ) (f : Int) {w : Nat} (hw : w < 4) (d : Int) : -5 ≤ fi σ f w d ∧ fi σ f w d ≤ 999 ∧ (w ≠ 3 → 0 ≤ fi σ f w d) := by
  unfold fi
  by_cases c : kk σ f w d < 0
  · rw [ifp c]; unfold d1
    have : w = 0 ∨ w = 1 ∨ w = 2 ∨ w = 3 := by omega
    rcases this with rfl | rfl | rfl | rfl <;> decide
  · rw [ifn c]
    have h := cC_ok hI f w d (by omega)
    have := (h.1.2.1 (by rw [h.2]; omega)).1
    exact ⟨by omega, by omega, fun _ => by omega⟩
theorem se_in {σ : Mm} (hI : Inv σ) (f : Int) {w : Nat} (hw : w = 0 ∨ w = 2) (d : Int) : 0 ≤ se σ f w d ∧ se σ f w d ≤ 999 ∧ (w = 0 → 1 ≤ se σ f w d) := by
  unfold se
  by_cases c : kk σ f w d < 0
  · rw [ifp c]; unfold d2
    rcases hw with rfl | rfl <;> decide
  · rw [ifn c]
    have h := cC_ok hI f w d (by omega)
    have h2 := (h.1.2.1 (by rw [h.2]; omega)).2
    rcases hw with rfl | rfl
    · have := h2.1 h.2; exact ⟨by omega, by omega, fun _ => by omega⟩
    · have := h2.2 h.2; exact ⟨by omega, by omega, fun q => by cases q⟩
/-- values of facts beyond the fifth don't matter -/
theorem evL_c {φ ψ : Nat → Int} (hφ : ∀ j, j < 5 → φ j = ψ j) : ∀ (c : List Int) (st : List Bool) (h1 : Nat), hg c st.length = some h1 → evL φ c st = evL ψ c st
  | [], st, h1, _ => rfl
  | op :: c, st, h1, hh => by
    have hd : hg (op :: c) st.length = if 0 ≤ op then (if op < 15000 ∧ st.length < 31 then hg c (st.length + 1) else none) else if op = -3 then (if 1 ≤ st.length then hg c st.length else none) else if op = -2 ∨ op = -1 then (if 2 ≤ st.length then hg c (st.length - 1) else none) else none := rfl
    rw [hd] at hh
    show evL φ c (ev1 φ op st) = evL ψ c (ev1 ψ op st)
    by_cases c1 : 0 ≤ op
    · rw [ifp c1] at hh
      by_cases c2 : op < 15000 ∧ st.length < 31
      · rw [ifp c2] at hh
        have e : ev1 φ op st = ev1 ψ op st := by
          unfold ev1 tst
          rw [ifp c1, ifp c1, hφ (op / 3000).toNat (by omega)]
        rw [e]
        exact evL_c hφ c _ h1 (by unfold ev1; rw [ifp c1]; exact hh)
      · rw [ifn c2] at hh; cases hh
    · rw [ifn c1] at hh
      have e : ev1 φ op st = ev1 ψ op st := by
        unfold ev1
        rw [ifn c1, ifn c1]
      rw [e]
      refine evL_c hφ c _ h1 ?_
      unfold ev1
      rw [ifn c1]
      by_cases c2 : op = -3
      · rw [ifp c2] at hh ⊢
        cases st with
        | nil => cases hh
        | cons b r => rw [ifp (by simp)] at hh; exact hh
      · rw [ifn c2] at hh ⊢
        by_cases c3 : op = -2 ∨ op = -1
        · rw [ifp c3] at hh
          cases st with
          | nil => cases hh
          | cons b r =>
            cases r with
            | nil => cases hh
            | cons a r => rw [ifp (by simp)] at hh; exact hh
        · rw [ifn c3] at hh; cases hh
theorem l_C_holds (n : Nat) (M : Mm) (e e2 : Nat) (he : e < 120) (h36 : M 36 e = (e2 : Int)) (he2 : e2 ≤ 2000) : ∀ (c : List Int) (i g : Nat) (st : List Bool), (∀ t, t < c.length → M 37 (i + t) = (c[t]?).getD 0) → i + c.length = e2 → hg c st.length = some 1 → st.length ≤ 31 → c.length < g → lp_C_holds_10 n g e (encN st) i M = some (if (evL (M 41) c st).headD false = true then 1 else 0, M) := by
  intro c
  induction c with
  | nil =>
    intro i g st h37 hi hh hst hg'
    obtain ⟨g', rfl, _⟩ := f_pos hg'
    show f_C_holds_10 n (lp_C_holds_10 n g') e _ i M = _
    unfold f_C_holds_10
    simp at hi
    rw [ckp (by omega), Int.toNat_natCast, h36, ifp (by omega)]
    have hl : st.length = 1 := Option.some.inj hh
    match st, hl with
    | [b], _ =>
      have e1 : encN [b] = 2 * 0 + b.toNat := rfl
      rw [e1, st_low]
      cases b <;> rfl
  | cons op c ih =>
    intro i g st h37 hi hh hst hg'
    obtain ⟨g', rfl, hg2⟩ := f_pos hg'
    have hop : M 37 i = op := by have := h37 0 (by simp); simpa using this
    have hn : ∀ t, t < c.length → M 37 (i + 1 + t) = (c[t]?).getD 0 := by
      intro t ht
      have := h37 (t + 1) (by simp; omega)
      rw [show i + (t + 1) = i + 1 + t by omega] at this
      simpa using this
    simp at hi
    have hd : hg (op :: c) st.length = if 0 ≤ op then (if op < 15000 ∧ st.length < 31 then hg c (st.length + 1) else none) else if op = -3 then (if 1 ≤ st.length then hg c st.length else none) else if op = -2 ∨ op = -1 then (if 2 ≤ st.length then hg c (st.length - 1) else none) else none := rfl
    rw [hd] at hh
    have ev : evL (M 41) (op :: c) st = evL (M 41) c (ev1 (M 41) op st) := rfl
    have next : ∀ st2 : List Bool, ev1 (M 41) op st = st2 → hg c st2.length = some 1 → st2.length ≤ 31 → f_C_holds_183 n (lp_C_holds_10 n g') e (encN st2) i M = some (if (evL (M 41) (op :: c) st).headD false = true then 1 else 0, M) := by
      intro st2 h1 h2 h3
      rw [ev, h1]
      unfold f_C_holds_183
      rw [w_succ (by omega)]
      exact ih (i + 1) g' st2 hn (by omega) h2 h3 (by simp at hg2; omega)
    show f_C_holds_10 n (lp_C_holds_10 n g') e _ i M = _
    unfold f_C_holds_10
    rw [ckp (by omega), Int.toNat_natCast, h36, ifn (by omega), ckp (by omega), Int.toNat_natCast, hop]
    by_cases c1 : 0 ≤ op
    · rw [ifp c1] at hh
      by_cases c2 : op < 15000 ∧ st.length < 31
      · rw [ifp c2] at hh
        have b31 := encN_31 (st := st) (k := 30) (by omega)
        have e1 : ∀ b : Bool, f_C_holds_118 n (lp_C_holds_10 n g') e (encN st) i (b.toNat : Int) M = f_C_holds_183 n (lp_C_holds_10 n g') e (encN (b :: st)) i M := by
          intro b
          unfold f_C_holds_118 f_C_holds_133
          have := st_push b b31
          cases b with
          | false => rw [ifp (show ((false.toNat : Nat) : Int) = 0 from rfl)]; rw [show ior (ish (encN st : Int) 1) 0 = _ from this]; rfl
          | true => rw [ifn (by decide)]; rw [show ior (ish (encN st : Int) 1) 1 = _ from this]; rfl
        have e0 := e1 false
        have e1' := e1 true
        rw [show ((false.toNat : Nat) : Int) = 0 from rfl] at e0
        rw [show ((true.toNat : Nat) : Int) = 1 from rfl] at e1'
        have nx0 : tst (M 41) op = false → f_C_holds_118 n (lp_C_holds_10 n g') e (encN st) i 0 M = some (if (evL (M 41) (op :: c) st).headD false = true then 1 else 0, M) := by
          intro ht
          rw [e0]
          exact next _ (by unfold ev1; rw [ifp c1, ht]) (by simpa using hh) (by simp; omega)
        have nx1 : tst (M 41) op = true → f_C_holds_118 n (lp_C_holds_10 n g') e (encN st) i 1 M = some (if (evL (M 41) (op :: c) st).headD false = true then 1 else 0, M) := by
          intro ht
          rw [e1']
          exact next _ (by unfold ev1; rw [ifp c1, ht]) (by simpa using hh) (by simp; omega)
        rw [ifn (by omega), idv_nn (x := op) ⟨c1, by omega⟩ (by decide), irm_nn (x := op) ⟨c1, by omega⟩ (by decide), irm_nn (x := op) ⟨c1, by omega⟩ (by decide), idv_nn (x := op % 3000) (by omega) (by decide), ckp (by omega)]
        have tdef : tst (M 41) op = if op % 3000 / 1000 = 0 then decide (M 41 (op / 3000).toNat < op % 1000) else if op % 3000 / 1000 = 1 then decide (M 41 (op / 3000).toNat = op % 1000) else decide (op % 1000 < M 41 (op / 3000).toNat) := rfl
        by_cases r0 : op % 3000 / 1000 = 0
        · rw [ifn (show ¬ op % 3000 / 1000 ≠ 0 by omega)]
          rw [ifp r0] at tdef
          by_cases q : op % 1000 ≤ M 41 (op / 3000).toNat
          · rw [ifp q]; exact nx0 (by rw [tdef]; exact decide_eq_false (by omega))
          · rw [ifn q]; exact nx1 (by rw [tdef]; exact decide_eq_true (by omega))
        · rw [ifp (show op % 3000 / 1000 ≠ 0 from r0)]
          rw [ifn r0] at tdef
          by_cases r1 : op % 3000 / 1000 = 1
          · rw [ifn (show ¬ op % 3000 / 1000 ≠ 1 by omega)]
            rw [ifp r1] at tdef
            by_cases q : M 41 (op / 3000).toNat = op % 1000
            · rw [ifn (by simpa using q)]; exact nx1 (by rw [tdef]; exact decide_eq_true q)
            · rw [ifp q]; exact nx0 (by rw [tdef]; exact decide_eq_false q)
          · rw [ifp (show op % 3000 / 1000 ≠ 1 from r1)]
            rw [ifn r1] at tdef
            by_cases q : M 41 (op / 3000).toNat ≤ op % 1000
            · rw [ifp q]; exact nx0 (by rw [tdef]; exact decide_eq_false (by omega))
            · rw [ifn q]; exact nx1 (by rw [tdef]; exact decide_eq_true (by omega))
      · rw [ifn c2] at hh; cases hh
    · rw [ifn c1] at hh
      rw [ifp (show op < 0 by omega)]
      by_cases c2 : op = -3
      · rw [ifp c2] at hh
        rw [ifn (show ¬ op ≠ -3 by omega)]
        match st, hh, hst, next with
        | [], hh, _, _ => cases hh
        | b :: r, hh, hst, next =>
          rw [ifp (by simp)] at hh
          have b31 := encN_31 (st := r) (k := 30) (by simp at hst; omega)
          show f_C_holds_183 n (lp_C_holds_10 n g') e (ixo ((2 * encN r + b.toNat : Nat) : Int) 1) i M = _
          rw [st_not b b31]
          exact next ((!b) :: r) (by unfold ev1; rw [ifn c1, ifp c2]) (by simpa using hh) (by simpa using hst)
      · rw [ifn c2] at hh
        rw [ifp (show op ≠ -3 from c2)]
        by_cases c3 : op = -2 ∨ op = -1
        · rw [ifp c3] at hh
          match st, hh, hst, next with
          | [], hh, _, _ => cases hh
          | [_], hh, _, _ => cases hh
          | b :: a :: r, hh, hst, next =>
            rw [ifp (by simp)] at hh
            simp at hst
            have b31 := encN_31 (st := r) (k := 29) (by omega)
            have hA := btn a
            have e1 : isr ((2 * (2 * encN r + a.toNat) + b.toNat : Nat) : Int) 1 = ((2 * encN r + a.toNat : Nat) : Int) := st_half b (by omega)
            have e2 : ian ((2 * (2 * encN r + a.toNat) + b.toNat : Nat) : Int) 1 = (b.toNat : Int) := st_low _ b
            unfold f_C_holds_182
            rw [show ((encN (b :: a :: r) : Nat) : Int) = ((2 * (2 * encN r + a.toNat) + b.toNat : Nat) : Int) from rfl, e1, e2, st_or a b (by omega), st_and a b (by omega)]
            by_cases c4 : op = -2
            · rw [ifn (show ¬ op ≠ -2 by omega)]
              exact next ((a || b) :: r) (by unfold ev1; rw [ifn c1, ifn c2]; simp only [ifp c4]) (by simpa using hh) (by simp; omega)
            · rw [ifp (show op ≠ -2 from c4)]
              exact next ((a && b) :: r) (by unfold ev1; rw [ifn c1, ifn c2]; simp only [ifn c4]) (by simpa using hh) (by simp; omega)
        · rw [ifn c3] at hh; cases hh
theorem e_C_holds {M σ : Mm} (n : Nat) (hn : 3000 ≤ n) (hI : Inv σ) (hC : RelC M σ) (f d : Int) (hk : 0 ≤ kk σ f 4 d) : f_C_holds n (ic σ f 4 d) M = some (if slp σ f d (M 41) = true then 1 else 0, M) := by
  rcases ic_row hI hC f 4 d with ⟨h1, h2⟩ | ⟨h1, h2, h3, h4, h5, h6⟩
  · omega
  · obtain ⟨r1, r2, r3, r4⟩ := h6.2.2.2 h5
    have ok := (cC_ok hI f 4 d hk).1.2.2 h5
    unfold f_C_holds slp evB
    rw [ckp (by omega), ifn (show ¬ kk σ f 4 d < 0 by omega)]
    obtain ⟨e, he⟩ := nat_of h3
    rw [he] at r1 r2 r3 r4 ⊢
    rw [Int.toNat_natCast] at r1 r2 r3 r4 ⊢
    obtain ⟨a, ha⟩ := nat_of r1
    rw [ha] at r2 r4 ⊢
    rw [Int.toNat_natCast] at r4
    have := l_C_holds n M e (a + (cC σ f 4 d).2.2.2.length) (by omega) (by rw [r2]; omega) (by omega) (cC σ f 4 d).2.2.2 a n [] r4 rfl ok (by decide) (by omega)
    exact this
/-- what a test may ask of a share of a holder -/
def fct (σ : Mm) (s : Nat) (h days : Int) : Nat → Int := fun j => if j = 0 then σ 1 h.toNat else if j = 1 then h else if j = 2 then days else if j = 3 then σ 5 s else σ 6 s
theorem slp_c {σ : Mm} (hI : Inv σ) (f d : Int) {φ ψ : Nat → Int} (h : ∀ j, j < 5 → φ j = ψ j) : slp σ f d φ = slp σ f d ψ := by
  unfold slp
  by_cases c : kk σ f 4 d < 0
  · rw [ifp c, ifp c]
  · rw [ifn c, ifn c]
    have ok := cC_ok hI f 4 d (by omega)
    unfold evB
    rw [evL_c h _ [] 1 (ok.1.2.2 ok.2)]
/-- what a share's votes count, if a holder has it since a day -/
def wt (σ : Mm) (d h sn : Int) (s : Nat) : Int :=
  if h < 0 ∨ h = σ 3 s ∨ σ 1 h.toNat = 4 ∨ σ 1 h.toNat = 5 ∨ slp σ (σ 3 s) d (fct σ s h (d - sn)) = true then 0
  else σ 6 s * (if fi σ (σ 3 s) 2 d ≤ d - sn then se σ (σ 3 s) 2 d else 1)
def gd (σ : Mm) (f d : Int) : Int := if 0 ≤ fi σ f 3 d ∧ fi σ f 3 d < σ 0 1 then fi σ f 3 d else -5
/-- the class has turned to a day -/
def LK (M σ : Mm) (d : Int) : Prop := M 3 2 = d ∧ ∀ f : Nat, (f : Int) < σ 0 1 → isF (σ 1) f = true → (∀ w : Nat, w < 5 → M (110 + f) w = ic σ f w d) ∧ M 43 f = gd σ f d
theorem wt_in {σ : Mm} (hI : Inv σ) (d h sn : Int) {s : Nat} (hs : (s : Int) < σ 0 3) : 0 ≤ wt σ d h sn s ∧ wt σ d h sn s ≤ 98901 := by
  unfold wt
  split
  · omega
  · have h6 := (hI.2.1.2.2.2.1 s hs).2.2.2.1
    split
    · have b := se_in hI (σ 3 s) (w := 2) (Or.inr rfl) d
      have h1 := Int.mul_nonneg h6.1 b.1
      have h2 : σ 6 s * se σ (σ 3 s) 2 d ≤ 99 * 999 := Int.mul_le_mul h6.2 b.2.1 b.1 (by decide)
      omega
    · omega
theorem e_U_sleeps {M σ : Mm} (n : Nat) (hn : 3000 ≤ n) (hI : Inv σ) (hC : RelC M σ) {d : Int} (hL : LK M σ d) {f s h : Nat} (hf : (f : Int) < σ 0 1) (hF : isF (σ 1) f = true) (hs : s < 40) (hh : h < 16) (days : Int) : ∃ M', f_U_sleeps n f s h days M = some (if slp σ f d (fct σ s h days) = true then 1 else 0, M') ∧ Fr cdC [41] M M' := by
  have b := hI.1.2.1
  have row := (hL.2 f hf hF).1 4 (by decide)
  unfold f_U_sleeps
  rw [ckp (by omega)]
  simp only [Int.toNat_natCast, show (4 : Int).toNat = 4 from rfl, show (3 : Int).toNat = 3 from rfl, show (2 : Int).toNat = 2 from rfl, show (1 : Int).toNat = 1 from rfl, show (0 : Int).toNat = 0 from rfl, row]
  have m17 := hC.1.2.2.2.2.2.1
  have m22 := hC.2.1.2.2.2.1
  have m23 := hC.2.1.2.2.2.2.1
  rcases ic_row hI hC f 4 d with ⟨h1, h2⟩ | ⟨h1, h2, h3, h4, h5, h6⟩
  · rw [ifn (by omega)]
    refine ⟨M, ?_, Fr.rf⟩
    unfold slp
    rw [ifp h1]; rfl
  · rw [ifp h3, ckp (by omega), ckp (by omega), ckp (by omega)]
    simp only [mg_k _ _ _ (show (22 : Nat) ≠ 41 by decide), mg_k _ _ _ (show (23 : Nat) ≠ 41 by decide), m17, m22, m23]
    have hF2 : Fr cdC [41] M (mset (mset (mset (mset (mset M 41 0 (σ 1 h)) 41 1 h) 41 2 days) 41 3 (σ 5 s)) 41 4 (σ 6 s)) := ((((Fr.rf.set rfl).set rfl).set rfl).set rfl).set rfl
    rw [e_C_holds n hn hI (hC.fr hF2 rfl) f d h1, bnd_mk]
    refine ⟨_, ?_, hF2⟩
    rw [slp_c hI f d (ψ := fct σ s h days) (fun j hj => by
      have : j = 0 ∨ j = 1 ∨ j = 2 ∨ j = 3 ∨ j = 4 := by omega
      rcases this with rfl | rfl | rfl | rfl | rfl <;> simp [mg, fct])]
theorem LK.fr {M M' σ : Mm} {d : Int} {L : List Nat} (h : LK M σ d) (hI : Inv σ) (f : Fr cdC L M M') (hd : ([1302, 43, 110, 111, 112, 113, 114, 115, 116, 117, 118, 119, 120, 121, 122, 123, 124, 125].all fun x => !L.elem x) = true) : LK M' σ d := by
  have b := hI.1.2.1
  have g : ∀ c, ([1302, 43, 110, 111, 112, 113, 114, 115, 116, 117, 118, 119, 120, 121, 122, 123, 124, 125].elem c) = true → L.elem c = false := by
    intro c hc
    have h1 := List.all_eq_true.mp hd c (List.elem_iff.mp hc)
    simpa using h1
  have hr : ∀ x : Nat, x < 16 → ∀ w, M' (110 + x) w = M (110 + x) w := by
    intro x hx w
    refine f _ _ ?_
    have e : cdC (110 + x) w = 110 + x := by unfold cdC; rw [ifn (by omega)]
    rw [e]
    refine g _ ?_
    have : ∀ x : Nat, x < 16 → ([1302, 43, 110, 111, 112, 113, 114, 115, 116, 117, 118, 119, 120, 121, 122, 123, 124, 125].elem (110 + x)) = true := by decide
    exact this x hx
  refine ⟨(f 3 2 (g _ rfl)).trans h.1, fun x hx hF => ?_⟩
  have := h.2 x hx hF
  refine ⟨fun w hw => ?_, (f 43 x (g _ rfl)).trans this.2⟩
  rw [hr x (by omega) w]
  exact this.1 w hw
theorem e_U_weigh {M σ : Mm} (n : Nat) (hn : 3000 ≤ n) (hI : Inv σ) (hC : RelC M σ) {d : Int} (hd : 0 ≤ d ∧ d ≤ 999) (hL : LK M σ d) {s : Nat} (hs : (s : Int) < σ 0 3) (h sn : Int) (hh : h < 0 ∨ (0 ≤ h ∧ h < σ 0 1 ∧ 0 ≤ sn ∧ sn ≤ 999)) : ∃ M', f_U_weigh n s h sn M = some (wt σ d h sn s, M') ∧ Fr cdC [41] M M' := by
  have b := hI.1.2.1
  have b1 := hI.2.1.1
  have hS := hI.2.1.2.2.2.1 s hs
  have m11 := hC.1.2.1
  have m17 := hC.1.2.2.2.2.2.1
  have m21 := hC.2.1.2.2.1
  have m23 := hC.2.1.2.2.2.2.1
  unfold f_U_weigh wt
  rw [ckp (by omega), Int.toNat_natCast, m21]
  by_cases c1 : h < 0
  · rw [ifp c1, ifp (Or.inl c1)]; exact ⟨M, rfl, Fr.rf⟩
  · rw [ifn c1]
    by_cases c2 : h = σ 3 s
    · rw [ifp c2, ifp (Or.inr (Or.inl c2))]; exact ⟨M, rfl, Fr.rf⟩
    · rw [ifn c2, e_R_isVoteless n M h (by rw [m11]; exact b.2), bnd_mk, m11, m17]
      by_cases c3 : σ 1 h.toNat = 4 ∨ σ 1 h.toNat = 5
      · rw [ifp (show 0 ≤ h ∧ h < σ 0 1 ∧ (σ 1 h.toNat = 4 ∨ σ 1 h.toNat = 5) from ⟨by omega, by omega, c3⟩), ifn (show ¬ (1 : Int) = 0 by decide), ifp (by
          rcases c3 with q | q
          · exact Or.inr (Or.inr (Or.inl q))
          · exact Or.inr (Or.inr (Or.inr (Or.inl q))))]
        exact ⟨M, rfl, Fr.rf⟩
      · rw [ifn (show ¬ (0 ≤ h ∧ h < σ 0 1 ∧ (σ 1 h.toNat = 4 ∨ σ 1 h.toNat = 5)) from fun q => c3 q.2.2), ifp (show (0 : Int) = 0 from rfl), hL.1, w32_s (x := d - sn) (by omega) (by omega)]
        obtain ⟨f, hf⟩ := nat_of hS.1.1
        obtain ⟨hN, hhN⟩ := nat_of (show 0 ≤ h by omega)
        have hF : isF (σ 1) f = true := by
          have := hS.1.2.2
          rw [hf, Int.toNat_natCast] at this
          exact decide_eq_true this
        obtain ⟨M1, g1, g2⟩ := e_U_sleeps n hn hI hC hL (f := f) (s := s) (h := hN) (by omega) hF (by omega) (by omega) (d - sn)
        rw [hf, hhN, g1, bnd_mk]
        have hC1 := hC.fr g2 rfl
        have hL1 := hL.fr hI g2 rfl
        by_cases c4 : slp σ f d (fct σ s hN (d - sn)) = true
        · rw [ifp c4, ifn (show ¬ (1 : Int) = 0 by decide), ifp (Or.inr (Or.inr (Or.inr (Or.inr c4))))]
          exact ⟨M1, rfl, g2⟩
        · rw [ifn c4, ifp (show (0 : Int) = 0 from rfl), ckp (by omega), Int.toNat_natCast, show (2 : Int).toNat = 2 from rfl, (hL1.2 f (by omega) hF).1 2 (by decide)]
          have eF := e_C_firstOf n hI hC1 f (w := 2) (by decide) d
          have eS := e_C_secondOf n hI hC1 f (w := 2) (Or.inr rfl) d
          rw [show ((2 : Nat) : Int) = 2 from rfl] at eF eS
          rw [eF, bnd_mk, hL1.1, w32_s (x := d - sn) (by omega) (by omega), ifn (show ¬ ((hN : Int) < 0 ∨ (hN : Int) = f ∨ σ 1 ((hN : Int)).toNat = 4 ∨ σ 1 ((hN : Int)).toNat = 5 ∨ slp σ f d (fct σ s hN (d - sn)) = true) by
            rw [← hhN, ← hf]
            rintro (q | q | q | q | q)
            · exact c1 q
            · exact c2 q
            · exact c3 (Or.inl q)
            · exact c3 (Or.inr q)
            · rw [hf, hhN] at q; exact c4 q)]
          have h6 := hS.2.2.2.1
          unfold f_U_weigh_88 f_U_weigh_118
          rw [ckp (by omega), ckp (by omega), eS, bnd_mk, Int.toNat_natCast, hC1.2.1.2.2.2.2.1, ifp (show (0 : Int) = 0 from rfl), ifn (show ¬ (1 : Int) = 0 by decide)]
          by_cases c5 : d - sn < fi σ f 2 d
          · rw [ifp c5, ifn (show ¬ fi σ f 2 d ≤ d - sn by omega), w32_s (by omega) (by omega)]
            exact ⟨M1, rfl, g2⟩
          · have b5 := se_in hI f (w := 2) (Or.inr rfl) d
            have h1 := Int.mul_nonneg h6.1 b5.1
            have h2 : σ 6 s * se σ f 2 d ≤ 99 * 999 := Int.mul_le_mul h6.2 b5.2.1 b5.1 (by decide)
            rw [ifn c5, ifp (show fi σ f 2 d ≤ d - sn by omega), w32_s (by omega) (by omega)]
            exact ⟨M1, rfl, g2⟩
