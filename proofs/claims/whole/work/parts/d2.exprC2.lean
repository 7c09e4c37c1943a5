/-! The class's expressions are the plain ones: by recursion. -/
section
variable {t : Nat → Int} {m n e0 : Nat}
theorem KPc.tr {M M1 M2 : Mm} {e : Nat} {c : List Int} (h : GRW M M1 e c) (h' : KPc M1 M2 (e + c.length)) : KPc M M2 e := fun i hi => (h' i (by omega)).trans (h.2.1 i hi)
theorem ResC.pre {o o' : Rr} {M M1 : Mm} {p e p1 e1 : Nat} {x : Nat × Option (List Int)} (h : ResC t m o' M1 p1 e1 x) (ho : o = o') (k : GRW M M1 e []) (f : Fr cdC CXL M M1) (he : e1 = e) (hp : p ≤ p1) : ResC t m o M p e x := by
  subst he
  subst ho
  refine ⟨fun hx => ?_, fun c hc => ?_⟩
  · obtain ⟨M2, z1, z2, z3, z4⟩ := h.1 hx
    exact ⟨M2, z1, z2, f.trans z3, KPc.tr k z4⟩
  · obtain ⟨M2, z1, z2, z3, z4, z5, z6⟩ := h.2 c hc
    have := k.trans z4
    rw [List.nil_append] at this
    exact ⟨M2, z1, z2, f.trans z3, this, by omega, z6⟩
def CP2 (t : Nat → Int) (m n e0 f : Nat) : Prop := ∀ (p d e D : Nat) (M : Mm), RDc M t m p → M 2 11 = (e : Int) → e ≤ e0 + p → d ≤ 4 → 3 * (4 - d) + 1 ≤ D → 4 * (m - p) + 2 ≤ f → ResC t m (g_rd n D 2 d M) M p e (sE t m f 2 d p) ∧ ∀ c, (sE t m f 2 d p).2 = some c → p < (sE t m f 2 d p).1
def CP1 (t : Nat → Int) (m n e0 f : Nat) : Prop := ∀ (p d e D : Nat) (M : Mm), RDc M t m p → M 2 11 = (e : Int) → e ≤ e0 + p → d ≤ 4 → 3 * (4 - d) + 2 ≤ D → 4 * (m - p) + 3 ≤ f → ResC t m (g_rd n D 1 d M) M p e (sE t m f 1 d p) ∧ ∀ c, (sE t m f 1 d p).2 = some c → p < (sE t m f 1 d p).1
def CP4 (t : Nat → Int) (m n e0 f : Nat) : Prop := ∀ (p d e D i g : Nat) (M : Mm), RDc M t m p → M 2 11 = (e : Int) → e ≤ e0 + p → d ≤ 4 → 3 * (4 - d) + 1 ≤ D → i ≤ p → m - p < g → 4 * (m - p) + 1 ≤ f → ResC t m (lp_C_readEvery_12 n (g_rd n D) g d i M) M p e (sE t m f 4 d p)
def CP0 (t : Nat → Int) (m n e0 f : Nat) : Prop := ∀ (p d e D : Nat) (M : Mm), RDc M t m p → M 2 11 = (e : Int) → e ≤ e0 + p → d ≤ 4 → 3 * (4 - d) + 3 ≤ D → 4 * (m - p) + 4 ≤ f → ResC t m (g_rd n D 0 d M) M p e (sE t m f 0 d p) ∧ ∀ c, (sE t m f 0 d p).2 = some c → p < (sE t m f 0 d p).1
def CP3 (t : Nat → Int) (m n e0 f : Nat) : Prop := ∀ (p d e D i g : Nat) (M : Mm), RDc M t m p → M 2 11 = (e : Int) → e ≤ e0 + p → d ≤ 4 → 3 * (4 - d) + 2 ≤ D → i ≤ p → m - p < g → 4 * (m - p) + 1 ≤ f → ResC t m (lp_C_readAny_12 n (g_rd n D) g d i M) M p e (sE t m f 3 d p)
theorem ResC.fail {o : Rr} {M M' : Mm} {p e q : Nat} (ho : o = some (0, M')) (hR : RDc M' t m q) (f : Fr cdC CXL M M') (k : KPc M M' e) : ResC t m o M p e (q, none) := ⟨fun _ => ⟨M', ho, hR, f, k⟩, fun c hc => by cases hc⟩
theorem ResC.done {o : Rr} {M M' : Mm} {p e q : Nat} {c : List Int} (ho : o = some (1, M')) (hR : RDc M' t m q) (f : Fr cdC CXL M M') (k : GRW M M' e c) (hl : c.length + p ≤ q) : ResC t m o M p e (q, some c) := ⟨fun h => (by cases h), fun c' hc => by cases hc; exact ⟨M', ho, hR, f, k, hl, hR.1.2⟩⟩
theorem CP_all (hn : 3000 ≤ n) (h19 : e0 ≤ 1900) : ∀ f, CP2 t m n e0 f ∧ CP1 t m n e0 f ∧ CP4 t m n e0 f ∧ CP0 t m n e0 f ∧ CP3 t m n e0 f
  | 0 => ⟨fun p d e D M _ _ _ _ _ h => by omega, fun p d e D M _ _ _ _ _ h => by omega, fun p d e D i g M _ _ _ _ _ _ _ h => by omega, fun p d e D M _ _ _ _ _ h => by omega, fun p d e D i g M _ _ _ _ _ _ _ h => by omega⟩
  | f + 1 => by
    obtain ⟨i2, i1, i4, i0, i3⟩ := CP_all hn h19 f
    refine ⟨?_, ?_, ?_, ?_, ?_⟩
    · -- a test, a NOT or a bracket
      intro p d e D M hR he hp hd hD hf
      obtain ⟨D', rfl, hD'⟩ := f_pos (show 0 < D by omega)
      have hi := hR.1
      have es : sE t m (f + 1) 2 d p = (if d < 4 ∧ nx t m p = 33 then (match sE t m f 2 (d + 1) (p + 1) with
          | (q, none) => (q, none)
          | (q, some c) => (q, some (c ++ [-3]))) else if d < 4 ∧ nx t m p = 40 then (match sE t m f 0 (d + 1) (p + 1) with
          | (q, none) => (q, none)
          | (q, some c) => if nx t m q = 41 then (q + 1, some c) else (q, none)) else sTest t m p) := rfl
      have eg : g_rd n (D' + 1) 2 d M = f_C_readOne n (g_rd n D') d M := rfl
      rw [es, eg]
      have test : f_C_readOne_61 n (g_rd n D') M = f_C_readTest n M := by
        unfold f_C_readOne_61
        rcases f_C_readTest n M with _ | ⟨r, M'⟩
        · rfl
        · rfl
      have T := e_C_readTest (n := n) hn hR he hp h19
      have f1 : Fr cdC [1203] M (mset M 2 3 ((p + 1 : Nat) : Int)) := Fr.rf.set rfl
      unfold f_C_readOne f_C_readOne_22 f_C_readOne_59
      by_cases c4 : 4 ≤ d
      · rw [ifp (show (4 : Int) ≤ (d : Int) by omega), ifp (show (4 : Int) ≤ (d : Int) by omega), ifn (show ¬ (d < 4 ∧ nx t m p = 33) by omega), ifn (show ¬ (d < 4 ∧ nx t m p = 40) by omega), test]
        exact T
      · rw [ifn (show ¬ (4 : Int) ≤ (d : Int) by omega), e_C_takes hR (by decide)]
        by_cases c33 : nx t m p = 33
        · have hlt := nx_lt c33 (by decide)
          rw [ifp c33, ifp (show d < 4 ∧ nx t m p = 33 from ⟨by omega, c33⟩), bnd_mk, ifn (show ¬ (1 : Int) = 0 by decide), w_succ (by omega)]
          have hR1 := hR.adv (q := p + 1) (by omega)
          generalize mset M 2 3 ((p + 1 : Nat) : Int) = M1 at hR1 f1 ⊢
          have he1 : M1 2 11 = (e : Int) := (f1 2 11 rfl).trans he
          have k1 := GRW.keep f1 he
          obtain ⟨D2, rfl, hD2⟩ := f_pos (show 0 < D' by omega)
          have eN : g_rd n (D2 + 1) 3 ((d + 1 : Nat) : Int) M1 = f_C_readNot n (g_rd n D2) ((d + 1 : Nat) : Int) M1 := rfl
          rw [eN]
          unfold f_C_readNot
          have I := i2 (p + 1) (d + 1) e D2 M1 hR1 he1 (by omega) (by omega) (by omega) (by omega)
          rcases hh : sE t m f 2 (d + 1) (p + 1) with ⟨q1, r1⟩
          rw [hh] at I
          cases r1 with
          | none =>
            obtain ⟨M2, z1, z2, z3, z4⟩ := I.1.1 rfl
            rw [z1, bnd_mk, ifn (show ¬ (0 : Int) ≠ 0 by decide), bnd_mk]
            exact ⟨ResC.fail rfl z2 ((f1.mono (by decide)).trans z3) (KPc.tr k1 z4), fun c hc => by cases hc⟩
          | some c1 =>
            obtain ⟨M2, z1, z2, z3, z4, z5, z6⟩ := I.1.2 c1 rfl
            have z5' : c1.length + (p + 1) ≤ q1 := z5
            have z6' : q1 ≤ m := z6
            rw [z1, bnd_mk, ifp (show (1 : Int) ≠ 0 by decide)]
            obtain ⟨M3, y1, y2, y3⟩ := e_C_put (n := n) z4.1 (by omega) (-3)
            rw [y1, bnd_mk, bnd_mk]
            have g12 := (k1.trans z4).trans y3
            rw [List.nil_append] at g12
            refine ⟨ResC.done rfl (z2.fr y2 rfl rfl rfl) (((f1.mono (by decide)).trans z3).trans (y2.mono (by decide))) g12 (by rw [List.length_append]; show c1.length + 1 + p ≤ q1; omega), fun c hc => by show p < q1; omega⟩
        · rw [ifn c33, ifn (show ¬ (d < 4 ∧ nx t m p = 33) from fun z => c33 z.2), bnd_mk, ifp rfl, ifn (show ¬ (4 : Int) ≤ (d : Int) by omega), e_C_takes hR (by decide)]
          by_cases c40 : nx t m p = 40
          · have hlt := nx_lt c40 (by decide)
            rw [ifp c40, ifp (show d < 4 ∧ nx t m p = 40 from ⟨by omega, c40⟩), bnd_mk, ifn (show ¬ (1 : Int) = 0 by decide), w_succ (by omega)]
            have hR1 := hR.adv (q := p + 1) (by omega)
            generalize mset M 2 3 ((p + 1 : Nat) : Int) = M1 at hR1 f1 ⊢
            have he1 : M1 2 11 = (e : Int) := (f1 2 11 rfl).trans he
            have k1 := GRW.keep f1 he
            have I := i0 (p + 1) (d + 1) e D' M1 hR1 he1 (by omega) (by omega) (by omega) (by omega)
            rcases hh : sE t m f 0 (d + 1) (p + 1) with ⟨q1, r1⟩
            rw [hh] at I
            cases r1 with
            | none =>
              obtain ⟨M2, z1, z2, z3, z4⟩ := I.1.1 rfl
              rw [z1, bnd_mk, ifp rfl]
              exact ⟨ResC.fail rfl z2 ((f1.mono (by decide)).trans z3) (KPc.tr k1 z4), fun c hc => by cases hc⟩
            | some c1 =>
              obtain ⟨M2, z1, z2, z3, z4, z5, z6⟩ := I.1.2 c1 rfl
              have z5' : c1.length + (p + 1) ≤ q1 := z5
              have z6' : q1 ≤ m := z6
              have g12 := k1.trans z4
              rw [List.nil_append] at g12
              rw [z1, bnd_mk, ifn (show ¬ (1 : Int) = 0 by decide), e_C_takes z2 (by decide)]
              show ResC t m _ M p e (if nx t m q1 = 41 then (q1 + 1, some c1) else (q1, none)) ∧ ∀ c, (if nx t m q1 = 41 then (q1 + 1, some c1) else (q1, none)).2 = some c → p < (if nx t m q1 = 41 then (q1 + 1, some c1) else (q1, none)).1
              have z2' : RDc M2 t m q1 := z2
              by_cases c41 : nx t m q1 = 41
              · have hlt2 := nx_lt c41 (by decide)
                have f2 : Fr cdC [1203] M2 (mset M2 2 3 ((q1 + 1 : Nat) : Int)) := Fr.rf.set rfl
                have g3 := g12.trans (GRW.keep f2 g12.1)
                rw [List.append_nil] at g3
                rw [ifp c41, ifp c41, bnd_mk, ifn (show ¬ (1 : Int) = 0 by decide)]
                exact ⟨ResC.done rfl (z2'.adv (by omega)) (((f1.mono (by decide)).trans z3).trans (f2.mono (by decide))) g3 (by omega), fun c hc => by show p < q1 + 1; omega⟩
              · rw [ifn c41, ifn c41, bnd_mk, ifp rfl]
                exact ⟨ResC.fail rfl z2' ((f1.mono (by decide)).trans z3) g12.2.1, fun c hc => by cases hc⟩
          · rw [ifn c40, ifn (show ¬ (d < 4 ∧ nx t m p = 40) from fun z => c40 z.2), bnd_mk, ifp rfl, test]
            exact T
    · -- ANDs
      intro p d e D M hR he hp hd hD hf
      obtain ⟨D', rfl, hD'⟩ := f_pos (show 0 < D by omega)
      have hi := hR.1
      have es : sE t m (f + 1) 1 d p = (match sE t m f 2 d p with
          | (q, none) => (q, none)
          | (q, some c) => match sE t m f 4 d q with
            | (q', none) => (q', none)
            | (q', some c') => (q', some (c ++ c'))) := rfl
      have eg : g_rd n (D' + 1) 1 d M = f_C_readEvery n (g_rd n D') d M := rfl
      rw [es, eg]
      unfold f_C_readEvery
      have I := i2 p d e D' M hR he hp hd (by omega) (by omega)
      rcases hh : sE t m f 2 d p with ⟨q1, r1⟩
      rw [hh] at I
      cases r1 with
      | none =>
        obtain ⟨M2, z1, z2, z3, z4⟩ := I.1.1 rfl
        rw [z1, bnd_mk, ifn (show ¬ (0 : Int) ≠ 0 by decide)]
        exact ⟨ResC.fail rfl z2 z3 z4, fun c hc => by cases hc⟩
      | some c1 =>
        obtain ⟨M2, z1, z2, z3, z4, z5, z6⟩ := I.1.2 c1 rfl
        have z5' : c1.length + p ≤ q1 := z5
        have z6' : q1 ≤ m := z6
        have hpq : p < q1 := I.2 c1 rfl
        rw [z1, bnd_mk, ifp (show (1 : Int) ≠ 0 by decide)]
        have I4 := i4 q1 d (e + c1.length) D' 0 n M2 z2 z4.1 (by omega) hd (by omega) (Nat.zero_le _) (by omega) (by omega)
        show ResC t m _ M p e (match sE t m f 4 d q1 with
            | (q', none) => (q', none)
            | (q', some c') => (q', some (c1 ++ c'))) ∧ ∀ c, (match sE t m f 4 d q1 with
            | (q', none) => (q', none)
            | (q', some c') => (q', some (c1 ++ c'))).2 = some c → p < (match sE t m f 4 d q1 with
            | (q', none) => (q', none)
            | (q', some c') => (q', some (c1 ++ c'))).1
        rcases hh2 : sE t m f 4 d q1 with ⟨q2, r2⟩
        rw [hh2] at I4
        cases r2 with
        | none =>
          obtain ⟨M3, y1, y2, y3, y4⟩ := I4.1 rfl
          exact ⟨ResC.fail y1 y2 (z3.trans y3) (KPc.tr z4 y4), fun c hc => by cases hc⟩
        | some c2 =>
          obtain ⟨M3, y1, y2, y3, y4, y5, y6⟩ := I4.2 c2 rfl
          have y5' : c2.length + q1 ≤ q2 := y5
          exact ⟨ResC.done y1 y2 (z3.trans y3) (z4.trans y4) (by rw [List.length_append]; omega), fun c hc => by show p < q2; omega⟩
    · -- what follows an AND's first
      intro p d e D i g M hR he hp hd hD hip hg hf
      obtain ⟨g', rfl, hg'⟩ := f_pos (show 0 < g by omega)
      have hi := hR.1
      have es : sE t m (f + 1) 4 d p = (if nx t m p = 38 then (match sE t m f 2 d (p + 1) with
          | (q, none) => (q, none)
          | (q, some c) => match sE t m f 4 d q with
            | (q', none) => (q', none)
            | (q', some c') => (q', some (c ++ (-1) :: c'))) else (p, some [])) := rfl
      have el : lp_C_readEvery_12 n (g_rd n D) (g' + 1) d i M = f_C_readEvery_12 n (g_rd n D) (lp_C_readEvery_12 n (g_rd n D) g') d i M := rfl
      have k0 : GRW M M e [] := GRW.keep Fr.rf he
      rw [es, el]
      unfold f_C_readEvery_12
      by_cases c100 : 100 ≤ i
      · have hnx : nx t m p ≠ 38 := fun z => by have := nx_lt z (by decide); omega
        rw [ifp (by omega), ifn hnx]
        exact ResC.done rfl hR Fr.rf k0 (by show 0 + p ≤ p; omega)
      · rw [ifn (by omega), e_C_takes hR (by decide)]
        by_cases c38 : nx t m p = 38
        · have hlt := nx_lt c38 (by decide)
          have f1 : Fr cdC [1203] M (mset M 2 3 ((p + 1 : Nat) : Int)) := Fr.rf.set rfl
          rw [ifp c38, ifp c38, bnd_mk, ifn (show ¬ (1 : Int) = 0 by decide)]
          have hR1 := hR.adv (q := p + 1) (by omega)
          generalize mset M 2 3 ((p + 1 : Nat) : Int) = M1 at hR1 f1 ⊢
          have he1 : M1 2 11 = (e : Int) := (f1 2 11 rfl).trans he
          have k1 := GRW.keep f1 he
          have I := i2 (p + 1) d e D M1 hR1 he1 (by omega) hd hD (by omega)
          rcases hh : sE t m f 2 d (p + 1) with ⟨q1, r1⟩
          rw [hh] at I
          cases r1 with
          | none =>
            obtain ⟨M2, z1, z2, z3, z4⟩ := I.1.1 rfl
            rw [z1, bnd_mk, ifn (show ¬ (0 : Int) ≠ 0 by decide)]
            exact ResC.fail rfl z2 ((f1.mono (by decide)).trans z3) (KPc.tr k1 z4)
          | some c1 =>
            obtain ⟨M2, z1, z2, z3, z4, z5, z6⟩ := I.1.2 c1 rfl
            have z5' : c1.length + (p + 1) ≤ q1 := z5
            have z6' : q1 ≤ m := z6
            have hpq : p + 1 < q1 := I.2 c1 rfl
            rw [z1, bnd_mk, ifp (show (1 : Int) ≠ 0 by decide)]
            obtain ⟨M3, y1, y2, y3⟩ := e_C_put (n := n) z4.1 (by omega) (-1)
            rw [y1, bnd_mk, w_succ (by omega)]
            have g12 := (k1.trans z4).trans y3
            rw [List.nil_append] at g12
            have z2' : RDc M3 t m q1 := z2.fr y2 rfl rfl rfl
            have I4 := i4 q1 d (e + (c1 ++ [-1]).length) D (i + 1) g' M3 z2' g12.1 (by rw [List.length_append]; show e + (c1.length + 1) ≤ e0 + q1; omega) hd hD (by omega) (by omega) (by omega)
            have fr3 : Fr cdC CXL M M3 := ((f1.mono (by decide)).trans z3).trans (y2.mono (by decide))
            show ResC t m _ M p e (match sE t m f 4 d q1 with
              | (q', none) => (q', none)
              | (q', some c') => (q', some (c1 ++ (-1) :: c')))
            rcases hh2 : sE t m f 4 d q1 with ⟨q2, r2⟩
            rw [hh2] at I4
            cases r2 with
            | none =>
              obtain ⟨M4, x1, x2, x3, x4⟩ := I4.1 rfl
              exact ResC.fail x1 x2 (fr3.trans x3) (KPc.tr g12 x4)
            | some c2 =>
              obtain ⟨M4, x1, x2, x3, x4, x5, x6⟩ := I4.2 c2 rfl
              have x5' : c2.length + q1 ≤ q2 := x5
              have ga := g12.trans x4
              have ea : (c1 ++ [-1]) ++ c2 = c1 ++ (-1) :: c2 := by simp
              rw [ea] at ga
              exact ResC.done x1 x2 (fr3.trans x3) ga (by rw [List.length_append]; show c1.length + (c2.length + 1) + p ≤ q2; omega)
        · rw [ifn c38, ifn c38, bnd_mk, ifp rfl]
          exact ResC.done rfl hR Fr.rf k0 (by show 0 + p ≤ p; omega)
    · -- ORs
      intro p d e D M hR he hp hd hD hf
      obtain ⟨D', rfl, hD'⟩ := f_pos (show 0 < D by omega)
      have hi := hR.1
      have es : sE t m (f + 1) 0 d p = (match sE t m f 1 d p with
          | (q, none) => (q, none)
          | (q, some c) => match sE t m f 3 d q with
            | (q', none) => (q', none)
            | (q', some c') => (q', some (c ++ c'))) := rfl
      have eg : g_rd n (D' + 1) 0 d M = f_C_readAny n (g_rd n D') d M := rfl
      rw [es, eg]
      unfold f_C_readAny
      have I := i1 p d e D' M hR he hp hd (by omega) (by omega)
      rcases hh : sE t m f 1 d p with ⟨q1, r1⟩
      rw [hh] at I
      cases r1 with
      | none =>
        obtain ⟨M2, z1, z2, z3, z4⟩ := I.1.1 rfl
        rw [z1, bnd_mk, ifn (show ¬ (0 : Int) ≠ 0 by decide)]
        exact ⟨ResC.fail rfl z2 z3 z4, fun c hc => by cases hc⟩
      | some c1 =>
        obtain ⟨M2, z1, z2, z3, z4, z5, z6⟩ := I.1.2 c1 rfl
        have z5' : c1.length + p ≤ q1 := z5
        have z6' : q1 ≤ m := z6
        have hpq : p < q1 := I.2 c1 rfl
        rw [z1, bnd_mk, ifp (show (1 : Int) ≠ 0 by decide)]
        have I3 := i3 q1 d (e + c1.length) D' 0 n M2 z2 z4.1 (by omega) hd (by omega) (Nat.zero_le _) (by omega) (by omega)
        show ResC t m _ M p e (match sE t m f 3 d q1 with
            | (q', none) => (q', none)
            | (q', some c') => (q', some (c1 ++ c'))) ∧ ∀ c, (match sE t m f 3 d q1 with
            | (q', none) => (q', none)
            | (q', some c') => (q', some (c1 ++ c'))).2 = some c → p < (match sE t m f 3 d q1 with
            | (q', none) => (q', none)
            | (q', some c') => (q', some (c1 ++ c'))).1
        rcases hh2 : sE t m f 3 d q1 with ⟨q2, r2⟩
        rw [hh2] at I3
        cases r2 with
        | none =>
          obtain ⟨M3, y1, y2, y3, y4⟩ := I3.1 rfl
          exact ⟨ResC.fail y1 y2 (z3.trans y3) (KPc.tr z4 y4), fun c hc => by cases hc⟩
        | some c2 =>
          obtain ⟨M3, y1, y2, y3, y4, y5, y6⟩ := I3.2 c2 rfl
          have y5' : c2.length + q1 ≤ q2 := y5
          exact ⟨ResC.done y1 y2 (z3.trans y3) (z4.trans y4) (by rw [List.length_append]; omega), fun c hc => by show p < q2; omega⟩
    · -- what follows an OR's first
      intro p d e D i g M hR he hp hd hD hip hg hf
      obtain ⟨g', rfl, hg'⟩ := f_pos (show 0 < g by omega)
      have hi := hR.1
      have es : sE t m (f + 1) 3 d p = (if nx t m p = 124 then (match sE t m f 1 d (p + 1) with
          | (q, none) => (q, none)
          | (q, some c) => match sE t m f 3 d q with
            | (q', none) => (q', none)
            | (q', some c') => (q', some (c ++ (-2) :: c'))) else (p, some [])) := rfl
      have el : lp_C_readAny_12 n (g_rd n D) (g' + 1) d i M = f_C_readAny_12 n (g_rd n D) (lp_C_readAny_12 n (g_rd n D) g') d i M := rfl
      have k0 : GRW M M e [] := GRW.keep Fr.rf he
      rw [es, el]
      unfold f_C_readAny_12
      by_cases c100 : 100 ≤ i
      · have hnx : nx t m p ≠ 124 := fun z => by have := nx_lt z (by decide); omega
        rw [ifp (by omega), ifn hnx]
        exact ResC.done rfl hR Fr.rf k0 (by show 0 + p ≤ p; omega)
      · rw [ifn (by omega), e_C_takes hR (by decide)]
        by_cases c38 : nx t m p = 124
        · have hlt := nx_lt c38 (by decide)
          have f1 : Fr cdC [1203] M (mset M 2 3 ((p + 1 : Nat) : Int)) := Fr.rf.set rfl
          rw [ifp c38, ifp c38, bnd_mk, ifn (show ¬ (1 : Int) = 0 by decide)]
          have hR1 := hR.adv (q := p + 1) (by omega)
          generalize mset M 2 3 ((p + 1 : Nat) : Int) = M1 at hR1 f1 ⊢
          have he1 : M1 2 11 = (e : Int) := (f1 2 11 rfl).trans he
          have k1 := GRW.keep f1 he
          have I := i1 (p + 1) d e D M1 hR1 he1 (by omega) hd hD (by omega)
          rcases hh : sE t m f 1 d (p + 1) with ⟨q1, r1⟩
          rw [hh] at I
          cases r1 with
          | none =>
            obtain ⟨M2, z1, z2, z3, z4⟩ := I.1.1 rfl
            rw [z1, bnd_mk, ifn (show ¬ (0 : Int) ≠ 0 by decide)]
            exact ResC.fail rfl z2 ((f1.mono (by decide)).trans z3) (KPc.tr k1 z4)
          | some c1 =>
            obtain ⟨M2, z1, z2, z3, z4, z5, z6⟩ := I.1.2 c1 rfl
            have z5' : c1.length + (p + 1) ≤ q1 := z5
            have z6' : q1 ≤ m := z6
            have hpq : p + 1 < q1 := I.2 c1 rfl
            rw [z1, bnd_mk, ifp (show (1 : Int) ≠ 0 by decide)]
            obtain ⟨M3, y1, y2, y3⟩ := e_C_put (n := n) z4.1 (by omega) (-2)
            rw [y1, bnd_mk, w_succ (by omega)]
            have g12 := (k1.trans z4).trans y3
            rw [List.nil_append] at g12
            have z2' : RDc M3 t m q1 := z2.fr y2 rfl rfl rfl
            have I3 := i3 q1 d (e + (c1 ++ [-2]).length) D (i + 1) g' M3 z2' g12.1 (by rw [List.length_append]; show e + (c1.length + 1) ≤ e0 + q1; omega) hd hD (by omega) (by omega) (by omega)
            have fr3 : Fr cdC CXL M M3 := ((f1.mono (by decide)).trans z3).trans (y2.mono (by decide))
            show ResC t m _ M p e (match sE t m f 3 d q1 with
              | (q', none) => (q', none)
              | (q', some c') => (q', some (c1 ++ (-2) :: c')))
            rcases hh2 : sE t m f 3 d q1 with ⟨q2, r2⟩
            rw [hh2] at I3
            cases r2 with
            | none =>
              obtain ⟨M4, x1, x2, x3, x4⟩ := I3.1 rfl
              exact ResC.fail x1 x2 (fr3.trans x3) (KPc.tr g12 x4)
            | some c2 =>
              obtain ⟨M4, x1, x2, x3, x4, x5, x6⟩ := I3.2 c2 rfl
              have x5' : c2.length + q1 ≤ q2 := x5
              have ga := g12.trans x4
              have ea : (c1 ++ [-2]) ++ c2 = c1 ++ (-2) :: c2 := by simp
              rw [ea] at ga
              exact ResC.done x1 x2 (fr3.trans x3) ga (by rw [List.length_append]; show c1.length + (c2.length + 1) + p ≤ q2; omega)
        · rw [ifn c38, ifn c38, bnd_mk, ifp rfl]
          exact ResC.done rfl hR Fr.rf k0 (by show 0 + p ≤ p; omega)
end
