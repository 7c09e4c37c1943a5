/-! The reference's expressions are the plain ones: by recursion. -/
section
variable {t : Nat → Int} {m n : Nat}
theorem E_test (g : Nat) {N : Mm} {p : Nat} (hR : RDt N t m p) (hc : nx t m p ≠ 33 ∧ nx t m p ≠ 40) : lp_m_takesE_17 n (g + 1) 1 N = bnd (f_m_takesTest n N) (fun r M => if r = 0 then some (0, M) else lp_m_takesE_17 n g 0 M) := by
  show f_m_takesE_17 n (lp_m_takesE_17 n g) 1 N = _
  unfold f_m_takesE_17
  rw [e_m_next n hR, bnd_mk, ifn (show ¬ (1 : Int) = 0 by decide), ifn hc.1, ifp hc.2]
def FailS (t : Nat → Int) (m n g : Nat) (w : Int) (N : Mm) (q : Nat) : Prop := ∃ N', lp_m_takesE_17 n g w N = some (0, N') ∧ RDt N' t m q ∧ Fr cdR SEL N N'
def DoneS (t : Nat → Int) (m n g : Nat) (w : Int) (N : Mm) (q : Nat) (V : List Int) (Q : List Bool) : Prop := ∃ N' g', lp_m_takesE_17 n g w N = lp_m_takesE_17 n g' 0 N' ∧ ESt N' t m q V Q ∧ m - q + 1 < g' ∧ Fr cdR SEL N N'
theorem FailS.pre {g g' : Nat} {w w' : Int} {N N' : Mm} {q : Nat} (h : FailS t m n g' w' N' q) (e : lp_m_takesE_17 n g w N = lp_m_takesE_17 n g' w' N') (f : Fr cdR SEL N N') : FailS t m n g w N q := by
  obtain ⟨N2, k1, k2, k3⟩ := h
  exact ⟨N2, e.trans k1, k2, f.trans k3⟩
theorem DoneS.pre {g g' : Nat} {w w' : Int} {N N' : Mm} {q : Nat} {V : List Int} {Q : List Bool} (h : DoneS t m n g' w' N' q V Q) (e : lp_m_takesE_17 n g w N = lp_m_takesE_17 n g' w' N') (f : Fr cdR SEL N N') : DoneS t m n g w N q V Q := by
  obtain ⟨N2, g2, k1, k2, k3, k4⟩ := h
  exact ⟨N2, g2, e.trans k1, k2, k3, f.trans k4⟩
def tpn (W : List Int) (l : List Int) : Prop := ∀ c W', W = c :: W' → ¬ c ∈ l
def EP2 (t : Nat → Int) (m n f : Nat) : Prop := ∀ (p : Nat) (W : List Int) (P : List Bool) (d : Nat) (N : Mm) (g : Nat), ESt N t m p W P → opn W = d → d ≤ 4 → m - p + 1 < g → 4 * (m - p) + 2 ≤ f → ∀ q r, sE t m f 2 d p = (q, r) → (r = none → FailS t m n g 1 N q) ∧ ∀ c, r = some c → (p < q ∧ q ≤ m) ∧ ∃ v, DoneS t m n g 1 N q (PUv W P v).1 (PUv W P v).2 ∧ ∀ st, evL (N 16) c st = v :: st
def EP1 (t : Nat → Int) (m n f : Nat) : Prop := ∀ (p : Nat) (W : List Int) (P : List Bool) (d : Nat) (N : Mm) (g : Nat), tpn W [33, 38] → ESt N t m p W P → opn W = d → d ≤ 4 → m - p + 1 < g → 4 * (m - p) + 3 ≤ f → ∀ q r, sE t m f 1 d p = (q, r) → (r = none → FailS t m n g 1 N q) ∧ ∀ c, r = some c → (p < q ∧ q ≤ m) ∧ nx t m q ≠ 38 ∧ ∃ a V Q, PD4 W P a V Q ∧ DoneS t m n g 1 N q V Q ∧ ∀ st, evL (N 16) c st = a :: st
def EP4 (t : Nat → Int) (m n f : Nat) : Prop := ∀ (p : Nat) (W V : List Int) (P Q : List Bool) (a0 : Bool) (d : Nat) (N : Mm) (g : Nat), tpn W [33, 38] → ESt N t m p V Q → PD4 W P a0 V Q → opn W = d → d ≤ 4 → m - p + 1 < g → 4 * (m - p) + 1 ≤ f → ∀ q r, sE t m f 4 d p = (q, r) → (r = none → FailS t m n g 0 N q) ∧ ∀ c, r = some c → (p ≤ q ∧ q ≤ m) ∧ nx t m q ≠ 38 ∧ ∃ a V' Q', PD4 W P a V' Q' ∧ DoneS t m n g 0 N q V' Q' ∧ ∀ st, evL (N 16) c (a0 :: st) = a :: st
def EP0 (t : Nat → Int) (m n f : Nat) : Prop := ∀ (p : Nat) (W : List Int) (P : List Bool) (d : Nat) (N : Mm) (g : Nat), tpn W [33, 38, 124] → ESt N t m p W P → opn W = d → d ≤ 4 → m - p + 1 < g → 4 * (m - p) + 4 ≤ f → ∀ q r, sE t m f 0 d p = (q, r) → (r = none → FailS t m n g 1 N q) ∧ ∀ c, r = some c → (p < q ∧ q ≤ m) ∧ (nx t m q ≠ 38 ∧ nx t m q ≠ 124) ∧ ∃ a V Q, PD3 W P a V Q ∧ DoneS t m n g 1 N q V Q ∧ ∀ st, evL (N 16) c st = a :: st
def EP3 (t : Nat → Int) (m n f : Nat) : Prop := ∀ (p : Nat) (W V : List Int) (P Q : List Bool) (a0 : Bool) (d : Nat) (N : Mm) (g : Nat), tpn W [33, 38, 124] → ESt N t m p V Q → PD3 W P a0 V Q → nx t m p ≠ 38 → opn W = d → d ≤ 4 → m - p + 1 < g → 4 * (m - p) + 1 ≤ f → ∀ q r, sE t m f 3 d p = (q, r) → (r = none → FailS t m n g 0 N q) ∧ ∀ c, r = some c → (p ≤ q ∧ q ≤ m) ∧ (nx t m q ≠ 38 ∧ nx t m q ≠ 124) ∧ ∃ a V' Q', PD3 W P a V' Q' ∧ DoneS t m n g 0 N q V' Q' ∧ ∀ st, evL (N 16) c (a0 :: st) = a :: st
theorem EP_all (hn : 3000 ≤ n) : ∀ f, EP2 t m n f ∧ EP1 t m n f ∧ EP4 t m n f ∧ EP0 t m n f ∧ EP3 t m n f
  | 0 => ⟨fun p W P d N g _ _ _ _ h => by omega, fun p W P d N g _ _ _ _ _ h => by omega, fun p W V P Q a0 d N g _ _ _ _ _ _ h => by omega, fun p W P d N g _ _ _ _ _ h => by omega, fun p W V P Q a0 d N g _ _ _ _ _ _ _ h => by omega⟩
  | f + 1 => by
    obtain ⟨i2, i1, i4, i0, i3⟩ := EP_all hn f
    have s16 : ∀ {N N' : Mm}, Fr cdR SEL N N' → N' 16 = N 16 := fun {N N'} h => h.row (k := 16) (fun _ => rfl)
    refine ⟨?_, ?_, ?_, ?_, ?_⟩
    · -- one that is a test, a NOT or a bracket
      intro p W P d N g hE ho hd hg hf q r hs
      obtain ⟨g0, rfl, _⟩ := f_pos (show 0 < g by omega)
      have hs' : (if d < 4 ∧ nx t m p = 33 then (match sE t m f 2 (d + 1) (p + 1) with
          | (q, none) => (q, none)
          | (q, some c) => (q, some (c ++ [-3]))) else if d < 4 ∧ nx t m p = 40 then (match sE t m f 0 (d + 1) (p + 1) with
          | (q, none) => (q, none)
          | (q, some c) => if nx t m q = 41 then (q + 1, some c) else (q, none)) else sTest t m p) = (q, r) := hs
      by_cases c33 : d < 4 ∧ nx t m p = 33
      · rw [ifp c33] at hs'
        have hlt : p < m := nx_lt c33.2 (by decide)
        obtain ⟨N1, k1, k2, k3⟩ := (E_open n g0 hE (Or.inl c33.2)).2 (by omega)
        rcases hh : sE t m f 2 (d + 1) (p + 1) with ⟨q1, r1⟩
        rw [hh] at hs'
        have I := i2 (p + 1) (nx t m p :: W) P (d + 1) N1 g0 k2 (by rw [opn_br (Or.inl c33.2), ho]) (by omega) (by omega) (by omega) q1 r1 hh
        cases r1 with
        | none =>
          have hs2 : (q1, (none : Option (List Int))) = (q, r) := hs'
          cases hs2
          exact ⟨fun _ => (I.1 rfl).pre k1 k3, fun c hc => by cases hc⟩
        | some c1 =>
          have hs2 : (q1, some (c1 ++ [-3])) = (q, r) := hs'
          cases hs2
          refine ⟨fun h => (by cases h), fun c hc => ?_⟩
          cases hc
          obtain ⟨j1, v, j2, j3⟩ := I.2 c1 rfl
          have hpu : PUv (nx t m p :: W) P v = PUv W P (!v) := by
            rw [c33.2]; unfold PUv; rw [ifp rfl]
            cases W <;> rfl
          rw [hpu] at j2
          refine ⟨⟨by omega, j1.2⟩, !v, j2.pre k1 k3, fun st => ?_⟩
          rw [evL_app, ← s16 k3, j3]
          rfl
      · rw [ifn c33] at hs'
        by_cases c40 : d < 4 ∧ nx t m p = 40
        · rw [ifp c40] at hs'
          have hlt : p < m := nx_lt c40.2 (by decide)
          obtain ⟨N1, k1, k2, k3⟩ := (E_open n g0 hE (Or.inr c40.2)).2 (by omega)
          rw [c40.2] at k2
          rcases hh : sE t m f 0 (d + 1) (p + 1) with ⟨q1, r1⟩
          rw [hh] at hs'
          have I := i0 (p + 1) (40 :: W) P (d + 1) N1 g0 (fun c W' e => by cases e; decide) k2 (by rw [opn_br (Or.inr rfl), ho]) (by omega) (by omega) (by omega) q1 r1 hh
          cases r1 with
          | none =>
            have hs2 : (q1, (none : Option (List Int))) = (q, r) := hs'
            cases hs2
            exact ⟨fun _ => (I.1 rfl).pre k1 k3, fun c hc => by cases hc⟩
          | some c1 =>
            obtain ⟨j1, j2, a, V, Q, j3, ⟨N2, g2, l1, l2, l3, l4⟩, j5⟩ := I.2 c1 rfl
            obtain ⟨g3, rfl, _⟩ := f_pos (show 0 < g2 by omega)
            obtain ⟨N3, s1, s2, s3⟩ := settle_3 n hn (W := 40 :: W) (fun c W' e => by cases e; exact ⟨by decide, by decide⟩) j3 l2
            have cl := E_close n g3 hn l2.1 j2 s1 s2 s3
            have hs2 : (if nx t m q1 = 41 then (q1 + 1, some c1) else (q1, none)) = (q, r) := hs'
            by_cases c41 : nx t m q1 = 41
            · rw [ifp c41] at hs2
              cases hs2
              have hlt2 : q1 < m := nx_lt c41 (by decide)
              obtain ⟨N4, z1, z2, z3⟩ := cl.2.2 W a P rfl rfl c41
              refine ⟨fun h => (by cases h), fun c hc => ?_⟩
              cases hc
              refine ⟨⟨by omega, by omega⟩, a, ?_, fun st => ?_⟩
              · exact ⟨N4, g3, (k1.trans l1).trans z1, z2, by omega, (k3.trans l4).trans z3⟩
              · rw [← s16 k3]; exact j5 st
            · rw [ifn c41] at hs2
              cases hs2
              refine ⟨fun _ => ?_, fun c hc => by cases hc⟩
              exact ⟨N3, (k1.trans l1).trans (cl.2.1 (by intro z; cases z) c41), s2.1, (k3.trans l4).trans s3⟩
        · rw [ifn c40] at hs'
          by_cases cb : nx t m p = 33 ∨ nx t m p = 40
          · have hd4 : opn W = 4 := by
              rcases cb with w | w
              · have : ¬ d < 4 := fun z => c33 ⟨z, w⟩
                omega
              · have : ¬ d < 4 := fun z => c40 ⟨z, w⟩
                omega
            have hT : sTest t m p = (p, none) := by
              unfold sTest
              have : lett (nx t m p) < 0 := by rcases cb with w | w <;> (rw [w]; decide)
              rw [ifp this]
            rw [hT] at hs'
            cases hs'
            exact ⟨fun _ => ⟨N, (E_open n g0 hE cb).1 hd4, hE.1, Fr.rf⟩, fun c hc => by cases hc⟩
          · have cb' : nx t m p ≠ 33 ∧ nx t m p ≠ 40 := ⟨fun z => cb (Or.inl z), fun z => cb (Or.inr z)⟩
            have T := e_m_takesTest n hn hE
            have et := E_test (n := n) g0 hE.1 cb'
            cases r with
            | none =>
              obtain ⟨N1, k1, k2, k3⟩ := T.1 q hs'
              refine ⟨fun _ => ⟨N1, ?_, k2, k3⟩, fun c hc => by cases hc⟩
              rw [et, k1, bnd_mk, ifp rfl]
            | some c1 =>
              obtain ⟨N1, v, k1, k2, k3, k4, k5, k6⟩ := T.2 q c1 hs'
              refine ⟨fun h => (by cases h), fun c hc => ?_⟩
              cases hc
              refine ⟨⟨k5, k6⟩, v, ⟨N1, g0, ?_, k2, by omega, k3⟩, k4⟩
              rw [et, k1, bnd_mk, ifn (show ¬ (1 : Int) = 0 by decide)]
    · -- ANDs
      intro p W P d N g hW hE ho hd hg hf q r hs
      have hs' : (match sE t m f 2 d p with
          | (q, none) => (q, none)
          | (q, some c) => match sE t m f 4 d q with
            | (q', none) => (q', none)
            | (q', some c') => (q', some (c ++ c'))) = (q, r) := hs
      rcases hh : sE t m f 2 d p with ⟨q1, r1⟩
      rw [hh] at hs'
      have I := i2 p W P d N g hE ho hd hg (by omega) q1 r1 hh
      cases r1 with
      | none =>
        have hs2 : (q1, (none : Option (List Int))) = (q, r) := hs'
        cases hs2
        exact ⟨fun _ => I.1 rfl, fun c hc => by cases hc⟩
      | some c1 =>
        obtain ⟨j1, v, ⟨N1, g1, l1, l2, l3, l4⟩, j3⟩ := I.2 c1 rfl
        rw [PUv_t (fun c W' e z => hW c W' e (by rw [z]; decide))] at l2
        have hs2 : (match sE t m f 4 d q1 with
            | (q', none) => (q', none)
            | (q', some c') => (q', some (c1 ++ c'))) = (q, r) := hs'
        rcases hh2 : sE t m f 4 d q1 with ⟨q2, r2⟩
        rw [hh2] at hs2
        have I4 := i4 q1 W W P (v :: P) v d N1 g1 hW l2 (Or.inl ⟨rfl, rfl⟩) ho hd l3 (by omega) q2 r2 hh2
        cases r2 with
        | none =>
          have hs3 : (q2, (none : Option (List Int))) = (q, r) := hs2
          cases hs3
          exact ⟨fun _ => (I4.1 rfl).pre l1 l4, fun c hc => by cases hc⟩
        | some c2 =>
          have hs3 : (q2, some (c1 ++ c2)) = (q, r) := hs2
          cases hs3
          refine ⟨fun h => (by cases h), fun c hc => ?_⟩
          cases hc
          obtain ⟨u1, u2, a, V, Q, u3, u4, u5⟩ := I4.2 c2 rfl
          refine ⟨⟨by omega, u1.2⟩, u2, a, V, Q, u3, u4.pre l1 l4, fun st => ?_⟩
          rw [evL_app, j3, ← s16 l4]
          exact u5 st
    · -- what follows an AND's first
      intro p W V P Q a0 d N g hW hE hP ho hd hg hf q r hs
      have hs' : (if nx t m p = 38 then (match sE t m f 2 d (p + 1) with
          | (q, none) => (q, none)
          | (q, some c) => match sE t m f 4 d q with
            | (q', none) => (q', none)
            | (q', some c') => (q', some (c ++ (-1) :: c'))) else (p, some [])) = (q, r) := hs
      by_cases c38 : nx t m p = 38
      · rw [ifp c38] at hs'
        have hlt : p < m := nx_lt c38 (by decide)
        obtain ⟨g0, rfl, _⟩ := f_pos (show 0 < g by omega)
        obtain ⟨N1, s1, s2, s3⟩ := settle_4 n hn (W := W) (fun c W' e z => hW c W' e (by rw [z]; decide)) hP hE
        obtain ⟨N2, k1, k2, k3⟩ := E_join n g0 hE.1 (Or.inl c38) (by rw [c38]; exact s1) s2 s3
        rw [c38] at k2
        rcases hh : sE t m f 2 d (p + 1) with ⟨q1, r1⟩
        rw [hh] at hs'
        have I := i2 (p + 1) (38 :: W) (a0 :: P) d N2 g0 k2 (by rw [opn_op (Or.inl rfl)]; exact ho) hd (by omega) (by omega) q1 r1 hh
        cases r1 with
        | none =>
          have hs2 : (q1, (none : Option (List Int))) = (q, r) := hs'
          cases hs2
          exact ⟨fun _ => (I.1 rfl).pre k1 k3, fun c hc => by cases hc⟩
        | some c1 =>
          obtain ⟨j1, v, ⟨N3, g1, l1, l2, l3, l4⟩, j3⟩ := I.2 c1 rfl
          rw [PUv_t (fun c W' e z => by cases e; exact absurd z (by decide))] at l2
          have hs2 : (match sE t m f 4 d q1 with
              | (q', none) => (q', none)
              | (q', some c') => (q', some (c1 ++ (-1) :: c'))) = (q, r) := hs'
          rcases hh2 : sE t m f 4 d q1 with ⟨q2, r2⟩
          rw [hh2] at hs2
          have I4 := i4 q1 W (38 :: W) P (v :: a0 :: P) (a0 && v) d N3 g1 hW l2 (Or.inr ⟨a0, v, rfl, rfl, rfl⟩) ho hd l3 (by omega) q2 r2 hh2
          cases r2 with
          | none =>
            have hs3 : (q2, (none : Option (List Int))) = (q, r) := hs2
            cases hs3
            exact ⟨fun _ => ((I4.1 rfl).pre l1 l4).pre k1 k3, fun c hc => by cases hc⟩
          | some c2 =>
            have hs3 : (q2, some (c1 ++ (-1) :: c2)) = (q, r) := hs2
            cases hs3
            refine ⟨fun h => (by cases h), fun c hc => ?_⟩
            cases hc
            obtain ⟨u1, u2, a, V', Q', u3, u4, u5⟩ := I4.2 c2 rfl
            refine ⟨⟨by omega, u1.2⟩, u2, a, V', Q', u3, (u4.pre l1 l4).pre k1 k3, fun st => ?_⟩
            rw [evL_app, ← s16 k3, j3]
            show evL (N2 16) c2 ((a0 && v) :: st) = a :: st
            rw [← s16 l4]
            exact u5 st
      · rw [ifn c38] at hs'
        cases hs'
        refine ⟨fun h => (by cases h), fun c hc => ?_⟩
        cases hc
        exact ⟨⟨Nat.le_refl p, hE.1.in.1.2⟩, c38, a0, V, Q, hP, ⟨N, g, rfl, hE, hg, Fr.rf⟩, fun st => rfl⟩
    · -- ORs
      intro p W P d N g hW hE ho hd hg hf q r hs
      have hs' : (match sE t m f 1 d p with
          | (q, none) => (q, none)
          | (q, some c) => match sE t m f 3 d q with
            | (q', none) => (q', none)
            | (q', some c') => (q', some (c ++ c'))) = (q, r) := hs
      have hW1 : tpn W [33, 38] := fun c W' e z => hW c W' e (by
        simp at z
        simp
        omega)
      rcases hh : sE t m f 1 d p with ⟨q1, r1⟩
      rw [hh] at hs'
      have I := i1 p W P d N g hW1 hE ho hd hg (by omega) q1 r1 hh
      cases r1 with
      | none =>
        have hs2 : (q1, (none : Option (List Int))) = (q, r) := hs'
        cases hs2
        exact ⟨fun _ => I.1 rfl, fun c hc => by cases hc⟩
      | some c1 =>
        obtain ⟨j1, j2, a1, V1, Q1, j3, ⟨N1, g1, l1, l2, l3, l4⟩, j5⟩ := I.2 c1 rfl
        have hs2 : (match sE t m f 3 d q1 with
            | (q', none) => (q', none)
            | (q', some c') => (q', some (c1 ++ c'))) = (q, r) := hs'
        rcases hh2 : sE t m f 3 d q1 with ⟨q2, r2⟩
        rw [hh2] at hs2
        have I3 := i3 q1 W V1 P Q1 a1 d N1 g1 hW l2 (Or.inl j3) j2 ho hd l3 (by omega) q2 r2 hh2
        cases r2 with
        | none =>
          have hs3 : (q2, (none : Option (List Int))) = (q, r) := hs2
          cases hs3
          exact ⟨fun _ => (I3.1 rfl).pre l1 l4, fun c hc => by cases hc⟩
        | some c2 =>
          have hs3 : (q2, some (c1 ++ c2)) = (q, r) := hs2
          cases hs3
          refine ⟨fun h => (by cases h), fun c hc => ?_⟩
          cases hc
          obtain ⟨u1, u2, a, V, Q, u3, u4, u5⟩ := I3.2 c2 rfl
          refine ⟨⟨by omega, u1.2⟩, u2, a, V, Q, u3, u4.pre l1 l4, fun st => ?_⟩
          rw [evL_app, j5, ← s16 l4]
          exact u5 st
    · -- what follows an OR's first
      intro p W V P Q a0 d N g hW hE hP h38 ho hd hg hf q r hs
      have hs' : (if nx t m p = 124 then (match sE t m f 1 d (p + 1) with
          | (q, none) => (q, none)
          | (q, some c) => match sE t m f 3 d q with
            | (q', none) => (q', none)
            | (q', some c') => (q', some (c ++ (-2) :: c'))) else (p, some [])) = (q, r) := hs
      by_cases c124 : nx t m p = 124
      · rw [ifp c124] at hs'
        have hlt : p < m := nx_lt c124 (by decide)
        obtain ⟨g0, rfl, _⟩ := f_pos (show 0 < g by omega)
        obtain ⟨N1, s1, s2, s3⟩ := settle_3 n hn (W := W) (fun c W' e => ⟨fun z => hW c W' e (by rw [z]; decide), fun z => hW c W' e (by rw [z]; decide)⟩) hP hE
        obtain ⟨N2, k1, k2, k3⟩ := E_join n g0 hE.1 (Or.inr c124) (by rw [c124]; exact s1) s2 s3
        rw [c124] at k2
        rcases hh : sE t m f 1 d (p + 1) with ⟨q1, r1⟩
        rw [hh] at hs'
        have I := i1 (p + 1) (124 :: W) (a0 :: P) d N2 g0 (fun c W' e => by cases e; decide) k2 (by rw [opn_op (Or.inr rfl)]; exact ho) hd (by omega) (by omega) q1 r1 hh
        cases r1 with
        | none =>
          have hs2 : (q1, (none : Option (List Int))) = (q, r) := hs'
          cases hs2
          exact ⟨fun _ => (I.1 rfl).pre k1 k3, fun c hc => by cases hc⟩
        | some c1 =>
          obtain ⟨j1, j2, v, V1, Q1, j3, ⟨N3, g1, l1, l2, l3, l4⟩, j5⟩ := I.2 c1 rfl
          have hs2 : (match sE t m f 3 d q1 with
              | (q', none) => (q', none)
              | (q', some c') => (q', some (c1 ++ (-2) :: c'))) = (q, r) := hs'
          rcases hh2 : sE t m f 3 d q1 with ⟨q2, r2⟩
          rw [hh2] at hs2
          have I3 := i3 q1 W V1 P Q1 (a0 || v) d N3 g1 hW l2 (Or.inr ⟨a0, v, j3, rfl⟩) j2 ho hd l3 (by omega) q2 r2 hh2
          cases r2 with
          | none =>
            have hs3 : (q2, (none : Option (List Int))) = (q, r) := hs2
            cases hs3
            exact ⟨fun _ => ((I3.1 rfl).pre l1 l4).pre k1 k3, fun c hc => by cases hc⟩
          | some c2 =>
            have hs3 : (q2, some (c1 ++ (-2) :: c2)) = (q, r) := hs2
            cases hs3
            refine ⟨fun h => (by cases h), fun c hc => ?_⟩
            cases hc
            obtain ⟨u1, u2, a, V', Q', u3, u4, u5⟩ := I3.2 c2 rfl
            refine ⟨⟨by omega, u1.2⟩, u2, a, V', Q', u3, (u4.pre l1 l4).pre k1 k3, fun st => ?_⟩
            rw [evL_app, ← s16 k3, j5]
            show evL (N2 16) c2 ((a0 || v) :: st) = a :: st
            rw [← s16 l4]
            exact u5 st
      · rw [ifn c124] at hs'
        cases hs'
        refine ⟨fun h => (by cases h), fun c hc => ?_⟩
        cases hc
        exact ⟨⟨Nat.le_refl p, hE.1.in.1.2⟩, ⟨h38, c124⟩, a0, V, Q, hP, ⟨N, g, rfl, hE, hg, Fr.rf⟩, fun st => rfl⟩
/-- an expression, read by the reference -/
theorem e_m_takesE (hn : 3000 ≤ n) {N : Mm} {p : Nat} (hR : RDt N t m p) : ∀ q r, sE t m 1000 0 0 p = (q, r) → (r = none → ∃ N', f_m_takesE n N = some (0, N') ∧ RDt N' t m q ∧ Fr cdR SEL N N') ∧ ∀ c, r = some c → ∃ N' b, f_m_takesE n N = some (1, N') ∧ RDt N' t m q ∧ Fr cdR SEL N N' ∧ N' 21 0 = (if b = true then 1 else 0) ∧ b = evB (N 16) c := by
  intro q r hs
  have hi := hR.in.1
  have f0 : Fr cdR SEL N (mset (mset (mset N 0 36 0) 0 37 0) 0 38 0) := ((Fr.rf.set rfl).set rfl).set rfl
  have hE : ESt (mset (mset (mset N 0 36 0) 0 37 0) 0 38 0) t m p [] [] := ⟨hR.fr (((Fr.rf.set (c := cdR) (L := [1036, 1037, 1038]) (N1 := N) (k := 0) (j := 36) (v := 0) rfl).set (k := 0) (j := 37) (v := 0) rfl).set (k := 0) (j := 38) (v := 0) rfl) rfl rfl rfl rfl, by rw [mg_j _ _ _ (by decide), mg_j _ _ _ (by decide), mg_s]; rfl, by rw [mg_j _ _ _ (by decide), mg_s]; rfl, mg_s _ _ _ _, trivial, trivial, Nat.zero_le _, Nat.zero_le _⟩
  have I := (EP_all (t := t) (m := m) hn 1000).2.2.2.1 p [] [] 0 _ n (fun c W' e => by cases e) hE rfl (by decide) (by omega) (by omega) q r hs
  have e16 : mset (mset (mset N 0 36 0) 0 37 0) 0 38 0 16 = N 16 := f0.row (k := 16) (fun _ => rfl)
  refine ⟨fun hr => ?_, fun c hc => ?_⟩
  · obtain ⟨N', k1, k2, k3⟩ := I.1 hr
    exact ⟨N', k1, k2, f0.trans k3⟩
  · obtain ⟨j1, j2, a, V, Q, j3, ⟨N2, g2, l1, l2, l3, l4⟩, j5⟩ := I.2 c hc
    obtain ⟨g3, rfl, _⟩ := f_pos (show 0 < g2 by omega)
    obtain ⟨N3, s1, s2, s3⟩ := settle_3 n hn (W := []) (fun c W' e => by cases e) j3 l2
    have cl := E_close n g3 hn l2.1 j2 s1 s2 s3
    refine ⟨N3, a, l1.trans (cl.1 rfl), s2.1, (f0.trans l4).trans s3, s2.2.2.2.2.2.1.1, ?_⟩
    rw [e16] at j5
    unfold evB
    rw [j5]
    rfl
end
