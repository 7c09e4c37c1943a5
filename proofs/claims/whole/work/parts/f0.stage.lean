/-! Layouts by stages: a cell is there, a field that refers is set, from its event on. -/
def stFl (e : Nat) (ev : Nat → Nat) (l : List (Nat × Nat)) : List (Nat × Nat) := l.mapIdx (fun j p => if p.1 = 1 ∧ e ≤ ev j then (4, 0) else p)
def stL (L : Lay) (evK : Nat → Nat) (evF : Nat → Nat → Nat) (Z : Nat → Wd → Nat → Prop) (e : Nat) : Lay :=
  (lC L, fun k => if evK k < e then lk L k else (9, 0, 0), fun c => stFl e (evF c) (lf L c), lh L, lX L, Z e)
section
variable {L : Lay} {evK : Nat → Nat} {evF : Nat → Nat → Nat} {Z : Nat → Wd → Nat → Prop} {e : Nat} {w : Wd} {M : Mm}
theorem stFl_at (ev : Nat → Nat) (l : List (Nat × Nat)) (j : Nat) : (stFl e ev l)[j]? = (l[j]?).map (fun p => if p.1 = 1 ∧ e ≤ ev j then (4, 0) else p) := by
  unfold stFl
  rw [List.getElem?_mapIdx]
theorem stFl_ne {ev : Nat → Nat} {l : List (Nat × Nat)} (h : ∀ j, ev j ≠ e) : stFl (e + 1) ev l = stFl e ev l := by
  apply List.ext_getElem?
  intro j
  rw [stFl_at, stFl_at]
  congr 1
  funext p
  have := h j
  by_cases c : p.1 = 1 ∧ e ≤ ev j
  · rw [if_pos c, if_pos ⟨c.1, by omega⟩]
  · rw [if_neg c, if_neg (fun q => c ⟨q.1, by omega⟩)]
theorem stL_grow {k : Nat} (hk : evK k = e) (hu : ∀ k', evK k' = e → k' = k) (hF : ∀ c j, evF c j ≠ e) : Grow (stL L evK evF Z e) (stL L evK evF Z (e + 1)) [k] := by
  refine ⟨rfl, rfl, fun k' hk' => ?_, fun k' hk' => ?_, fun c => ?_⟩
  · have h1 : k' ≠ k := by simpa using hk'
    have h2 : evK k' ≠ e := fun q => h1 (hu k' q)
    show (if evK k' < e + 1 then lk L k' else (9, 0, 0)) = (if evK k' < e then lk L k' else (9, 0, 0))
    by_cases c : evK k' < e
    · rw [if_pos c, if_pos (by omega)]
    · rw [if_neg c, if_neg (by omega)]
  · have h1 : k' = k := by simpa using hk'
    show (if evK k' < e then lk L k' else (9, 0, 0)).1 = 9
    rw [if_neg (by rw [h1]; omega)]
  · exact stFl_ne (hF c)
theorem stL_at {k : Nat} (hk : evK k < e) : lk (stL L evK evF Z e) k = lk L k := if_pos hk
theorem stL_no {k : Nat} (hk : ¬ evK k < e) : lk (stL L evK evF Z e) k = (9, 0, 0) := if_neg hk
/-- the row of a cell, from stage to stage, no object's field set between -/
theorem fvs_at (a : Nat → Nat) (r : Nat → Int) (l : List (Nat × Nat)) (j : Nat) : (fvs a r l)[j]? = (l[j]?).map (fun p => fv a r j p) := by
  unfold fvs
  rw [List.getElem?_mapIdx]
theorem fvs_put {a : Nat → Nat} {r : Nat → Int} {ev : Nat → Nat} {l : List (Nat × Nat)} {j kk : Nat} (hl : l[j]? = some (1, kk)) (hj : ev j = e) (hu : ∀ i, ev i = e → i = j) : fvs a r (stFl (e + 1) ev l) = (fvs a r (stFl e ev l)).set j (.ref (a kk)) := by
  apply List.ext_getElem?
  intro i
  rw [List.getElem?_set, fvs_at, fvs_at, stFl_at, stFl_at]
  have hlen : (fvs a r (stFl e ev l)).length = l.length := by unfold fvs stFl; rw [List.length_mapIdx, List.length_mapIdx]
  by_cases c : i = j
  · subst c
    have hlt : i < l.length := by
      rcases Nat.lt_or_ge i l.length with h | h
      · exact h
      · rw [List.getElem?_eq_none h] at hl; cases hl
    rw [if_pos rfl, if_pos (by rw [hlen]; exact hlt), hl]
    show some (fv a r i (if (1 = 1 ∧ e + 1 ≤ ev i) then (4, 0) else (1, kk))) = _
    rw [if_neg (by omega)]
    unfold fv
    rw [if_pos rfl]
  · rw [if_neg (fun q => c q.symm)]
    have h2 : ev i ≠ e := fun q => c (hu i q)
    cases hli : l[i]? with
    | none => rfl
    | some p =>
      show some (fv a r i (if (p.1 = 1 ∧ e + 1 ≤ ev i) then (4, 0) else p)) = some (fv a r i (if (p.1 = 1 ∧ e ≤ ev i) then (4, 0) else p))
      by_cases d : p.1 = 1 ∧ e ≤ ev i
      · rw [if_pos d, if_pos ⟨d.1, by omega⟩]
      · rw [if_neg d, if_neg (fun q => d ⟨q.1, by omega⟩)]
/-- a field that refers is set: the next stage -/
theorem stL_put {k c j kk : Nat} (hl : (lf L c)[j]? = some (1, kk)) (hj : evF c j = e) (hu : ∀ c' j', evF c' j' = e → c' = c ∧ j' = j) (hK : ∀ k', evK k' ≠ e) (hk : lk L k = (4, c, 0)) (hke : evK k < e) (h1 : ∀ k', (lk L k').1 = 4 → (lk L k').2.1 = c → k' = k) (hij : ij (stL L evK evF Z e) w) (hZ : ∀ n, Z e w n → Z (e + 1) w n) {H H1 : Heap} (h : Rp (stL L evK evF Z e) w M H) (hz : H1.size = H.size) (ho : ∀ q : Nat, q ≠ wa w k → H1[q]? = H[q]?)
    (hv : va_at (wD w) (lC L) (wa w k, .inr (c, (fvs (wa w) (M k) (lf (stL L evK evF Z e) c)).set j (.ref (wa w kk)))) H1) : Rp (stL L evK evF Z (e + 1)) w M H1 := by
  have ek : ∀ k', lk (stL L evK evF Z (e + 1)) k' = lk (stL L evK evF Z e) k' := fun k' => by
    show (if evK k' < e + 1 then lk L k' else (9, 0, 0)) = (if evK k' < e then lk L k' else (9, 0, 0))
    have := hK k'
    by_cases c : evK k' < e
    · rw [if_pos c, if_pos (by omega)]
    · rw [if_neg c, if_neg (by omega)]
  have ef : ∀ c', c' ≠ c → lf (stL L evK evF Z (e + 1)) c' = lf (stL L evK evF Z e) c' := fun c' hc => stFl_ne fun j' q => hc (hu c' j' q).1
  have ek1 : lk (stL L evK evF Z e) k = (4, c, 0) := (stL_at hke).trans hk
  have hpk : pr (stL L evK evF Z e) w k := by unfold pr; rw [ek1]; exact ⟨show (4 : Nat) ≠ 9 by decide, fun q => absurd q (show (4 : Nat) ≠ 8 by decide)⟩
  refine ⟨fun k' hk' => ?_, fun k' i => ?_, h.2.2.1, h.2.2.2.1, h.2.2.2.2.1, ?_⟩
  · have hp : pr (stL L evK evF Z e) w k' := by unfold pr at hk' ⊢; rw [ek k'] at hk'; exact hk'
    by_cases d : k' = k
    · subst d
      have ee : eO (stL L evK evF Z (e + 1)) w M k' = .inr (c, (fvs (wa w) (M k') (lf (stL L evK evF Z e) c)).set j (.ref (wa w kk))) := by
        unfold eO
        rw [ek k', ek1]
        show Sum.inr (c, fvs (wa w) (M k') (stFl (e + 1) (evF c) (lf L c))) = _
        rw [fvs_put hl hj (fun i q => (hu c i q).2)]
        rfl
      rw [ee]
      exact hv
    · have ee : eO (stL L evK evF Z (e + 1)) w M k' = eO (stL L evK evF Z e) w M k' := by
        unfold eO
        rw [ek k']
        by_cases g : (lk (stL L evK evF Z e) k').1 = 4
        · have g2 : (lk (stL L evK evF Z e) k').2.1 ≠ c := by
            by_cases z : evK k' < e
            · rw [stL_at z] at g ⊢
              exact fun q => d (h1 k' g q)
            · rw [stL_no z] at g; exact absurd g (by decide)
          rw [ef _ g2]
        · split <;> first | rfl | (rename_i z; exact absurd z g)
      rw [ee]
      exact (h.1 k' hp).kept (ho _ (fun q => d (hij k' k hp hpk q)))
  · have hr := h.2.1 k' i
    by_cases g : (lk (stL L evK evF Z e) k').1 = 4
    · by_cases g2 : (lk (stL L evK evF Z e) k').2.1 = c
      · by_cases g3 : i = j
        · subst g3
          have t1 : tO (stL L evK evF Z (e + 1)) k' i = 1 := by
            unfold tO
            rw [ek k', g, g2]
            show (((stFl (e + 1) (evF c) (lf L c))[i]?).getD (0, 0)).1 = 1
            rw [stFl_at, hl]
            show (if ((1 : Nat) = 1 ∧ e + 1 ≤ evF c i) then ((4, 0) : Nat × Nat) else (1, kk)).1 = 1
            rw [if_neg (by omega)]
          have t0 : tO (stL L evK evF Z e) k' i = 4 := by
            unfold tO
            rw [g, g2]
            show (((stFl e (evF c) (lf L c))[i]?).getD (0, 0)).1 = 4
            rw [stFl_at, hl]
            show (if ((1 : Nat) = 1 ∧ e ≤ evF c i) then ((4, 0) : Nat × Nat) else (1, kk)).1 = 4
            rw [if_pos ⟨rfl, by omega⟩]
          rw [t0] at hr
          rw [t1]
          exact hr
        · have t : tO (stL L evK evF Z (e + 1)) k' i = tO (stL L evK evF Z e) k' i := by
            unfold tO
            rw [ek k', g, g2]
            show (((stFl (e + 1) (evF c) (lf L c))[i]?).getD (0, 0)).1 = (((stFl e (evF c) (lf L c))[i]?).getD (0, 0)).1
            rw [stFl_at, stFl_at]
            have h2 : evF c i ≠ e := fun q => g3 (hu c i q).2
            cases hli : (lf L c)[i]? with
            | none => rfl
            | some p =>
              show (if (p.1 = 1 ∧ e + 1 ≤ evF c i) then ((4, 0) : Nat × Nat) else p).1 = (if (p.1 = 1 ∧ e ≤ evF c i) then ((4, 0) : Nat × Nat) else p).1
              by_cases d : p.1 = 1 ∧ e ≤ evF c i
              · rw [if_pos d, if_pos ⟨d.1, by omega⟩]
              · rw [if_neg d, if_neg (fun q => d ⟨q.1, by omega⟩)]
          rw [t]; exact hr
      · have t : tO (stL L evK evF Z (e + 1)) k' i = tO (stL L evK evF Z e) k' i := by
          unfold tO
          rw [ek k', ef _ g2]
        rw [t]; exact hr
    · have t : tO (stL L evK evF Z (e + 1)) k' i = tO (stL L evK evF Z e) k' i := by
        unfold tO
        rw [ek k']
        split <;> first | rfl | (rename_i z; exact absurd z g)
      rw [t]; exact hr
  · rw [hz]; exact hZ _ h.2.2.2.2.2
end
