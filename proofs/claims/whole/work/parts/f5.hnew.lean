/-! A holder comes: the new object. -/
def LHy : Lay := (clsC, lkfC, lHf 0, 16, fun w => KXG (Aw (LHd0 0 0) w) w, fun w n => n = wa w 600)
section
variable {w : Wd} {M M1 : Mm} {c : Nat}
theorem pr_hd_iff (c s c' s' k : Nat) : pr (LHd0 c s) w k ↔ pr (LHd0 c' s') w k := by
  unfold pr
  by_cases d : k = 600
  · subst d
    exact ⟨fun _ => ⟨show (4 : Nat) ≠ 9 by decide, fun q => absurd (show (4 : Nat) = 8 from q) (by decide)⟩, fun _ => ⟨show (4 : Nat) ≠ 9 by decide, fun q => absurd (show (4 : Nat) = 8 from q) (by decide)⟩⟩
  · have e1 : lk (LHd0 c s) k = lkfC k := if_neg d
    have e2 : lk (LHd0 c' s') k = lkfC k := if_neg d
    rw [e1, e2]
theorem aw_hd0 (c s c' s' : Nat) : Aw (LHd0 c s) w = Aw (LHd0 c' s') w := by
  funext q
  exact propext ⟨fun ⟨k, h1, h2⟩ => ⟨k, (pr_hd_iff c s c' s' k).mp h1, h2⟩, fun ⟨k, h1, h2⟩ => ⟨k, (pr_hd_iff c s c' s' k).mpr h1, h2⟩⟩
theorem pr_hy {k : Nat} (h : pr LHy w k) : k ≠ 600 ∧ pr (LHd c 0) w k := by
  have d : k ≠ 600 := fun d => by
    subst d
    exact h.1 (by decide +kernel)
  refine ⟨d, ?_⟩
  unfold pr at h ⊢
  have e : lk (LHd c 0) k = lk LHy k := if_neg d
  rw [e]
  exact h
theorem KstY : Kst LHy := fun w _ _ h hq hv => KstG (Aw (LHd0 0 0) w) h (fun a h1 h2 => hq a h1 (fun ⟨k, p1, p2⟩ => h2 ⟨k, (pr_hy (c := 0) p1).2, p2⟩)) hv
theorem hy_ij (hij : ij (LHd c 0) w) : ij LHy w := fun k k' h h' e => hij k k' (pr_hy h).2 (pr_hy h').2 e
theorem hy_grow : Grow LHy (LHd c 0) [600] := by
  refine ⟨rfl, rfl, fun k hk => ?_, fun k hk => ?_, fun _ => rfl⟩
  · have d : k ≠ 600 := by simpa using hk
    exact if_neg d
  · have d : k = 600 := by simpa using hk
    subst d
    exact (by decide +kernel)
variable {X : Cx} {own : String} {cc : ByteArray} {nL fr lo : Nat} {t : Nat} {r : Int} {lv : List (Nat × Value)} {st : List Value} {pc : Nat}
theorem hy_gc (G : Gc LHy w X own cc nL fr lo) (hij : ij (LHd c 0) w) (hA : ∀ q, Aw (LHd c 0) w q → xA X q) (hc : xcn X + 1 ≤ (xR X).cells) (hs : xsn X + 3 ≤ (xR X).slots) : Gc (LHd c 0) w (xInc X 1 3) own cc nL fr lo := by
  refine grow_gc (L' := LHd c 0) (a := 1) (b := 3) G rfl hij (KstH c 0) ?_ hA (fun q ⟨k, h1, h2⟩ => ⟨k, (pr_hy h1).2, h2⟩) hc hs
  have h := G.2.2.2.2.2.2.1
  show KXG (Aw (LHd0 c 0) w) w (xs X)
  rw [aw_hd0 c 0 0 0]
  exact h
theorem hd_new (G : Gc LHy w X own cc nL fr lo) (hc6 : c < 6) {C : String} {T : u_T} (hcl : clsC[c]? = some (C, T, 3)) (hin : ∀ x ∈ u_ws C T 3, x ∈ ALL) (hT : HT T) (h0 : ∀ j, M 600 j = 0) {idx : Nat} (q1 : Cond.classLink own idx C ∈ ALL) (q2 : Cond.instantiable C 3 ∈ ALL) (q3 : Cond.initialized C ∈ ALL) (hc : xcn X + 1 ≤ (xR X).cells) (hs : xsn X + 3 ≤ (xR X).slots) (hdg : decode cc pc = .ok (.new idx, 3)) (kk : VJ (LHd c 0) w (xInc X 1 3) nL t r M1 M lv (.ref (wa w 600) :: st) (pc + 3)) : VJ LHy w X nL t r M1 M lv st pc := by
  refine vj_cnewo G (L' := LHd c 0) (k := 600) (ci := c) hy_grow (lkH_600 c 0) hcl hin hT.ty (fun j hj => ?_) (fun m h => h.symm) (fun m h => by show m + 1 = wa w 600 + 1; rw [show m = wa w 600 from h]) h0 q1 q2 q3 hc hs hdg kk
  rw [lf_hd hc6]
  have ej : j = 0 ∨ j = 1 ∨ j = 2 := by omega
  rcases ej with rfl | rfl | rfl
  · show Value.int 0 = .int (i32 (M 600 0)); rw [h0]; rfl
  · show Value.int 0 = .int (i32 (M 600 1)); rw [h0]; rfl
  · rfl
end
