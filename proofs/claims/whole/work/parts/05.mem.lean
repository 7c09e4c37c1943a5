/-! Rows that read and write the memory; ends; calls. -/
theorem fvs_get {a : Nat → Nat} {r : Nat → Int} {fl : List (Nat × Nat)} {j : Nat} {c : Nat × Nat} (h : fl[j]? = some c) : (fvs a r fl)[j]? = some (fv a r j c) := by
  unfold fvs
  rw [List.getElem?_mapIdx, h]; rfl
theorem fvs_set {a : Nat → Nat} {r : Nat → Int} {fl : List (Nat × Nat)} {j : Nat} {v : Int} {x : Value} (hx : ∀ c, fl[j]? = some c → fv a (fun j' => if j' = j then v else r j') j c = x) : (fvs a r fl).set j x = fvs a (fun j' => if j' = j then v else r j') fl := by
  apply List.ext_getElem?
  intro i
  unfold fvs
  by_cases e : i = j
  · subst e
    rw [List.getElem?_mapIdx]
    cases hc : fl[i]? with
    | none => rw [List.getElem?_set_self']; rw [List.getElem?_mapIdx, hc]; rfl
    | some c =>
      rw [List.getElem?_set_self']; rw [List.getElem?_mapIdx, hc]
      exact congrArg some (hx c hc).symm
  · rw [List.getElem?_set_ne (fun q => e q.symm), List.getElem?_mapIdx, List.getElem?_mapIdx]
    cases fl[i]? with
    | none => rfl
    | some c =>
      show some (fv a r i c) = some (fv a _ i c)
      unfold fv
      simp only [e, if_false]
theorem lt_len {α : Type} {l : List α} {j : Nat} {c : α} (h : l[j]? = some c) : j < l.length := (List.getElem?_eq_some_iff.mp h).1
theorem pr_lt {L : Lay} {w : Wd} {k a b c : Nat} (hk : lk L k = (a, b, c)) (h : a < 8) : pr L w k := by
  unfold pr
  rw [hk]
  exact ⟨fun q => by have q1 : a = 9 := q; omega, fun q => by have q1 : a = 8 := q; omega⟩
theorem k_le {L : Lay} {k a b c : Nat} (hk : lk L k = (a, b, c)) (h : a ≤ 4) : (lk L k).1 ≤ 4 := by
  rw [hk]; exact h
section MEM
variable {L : Lay} {w : Wd} {X : Cx} {own : String} {cc : ByteArray} {nL fr lo : Nat} {t : Nat} {r : Int} {M1 M : Mm} {lv : List (Nat × Value)} {st : List Value} {pc : Nat}
theorem rp_obj {H : Heap} {k ci : Nat} (hP : Rp L w M H) (hk : lk L k = (4, ci, 0)) : va_at (wD w) (lC L) (wa w k, .inr (ci, fvs (wa w) (M k) (lf L ci))) H := by
  have hp : pr L w k := pr_lt hk (by decide)
  have h := hP.1 k hp
  unfold eO at h
  rw [hk] at h
  exact h
theorem rp_arr {H : Heap} {k n b : Nat} (hP : Rp L w M H) (hk : lk L k = (0, n, b)) : H[wa w k]? = some (arrV (wT w 0) n (fun j => .int (i32 (M k j)))) := by
  have hp : pr L w k := pr_lt hk (by decide)
  have h := hP.1 k hp
  unfold eO at h
  rw [hk] at h
  exact h
theorem rp_arb {H : Heap} {k n b : Nat} (hP : Rp L w M H) (hk : lk L k = (1, n, b)) : H[wa w k]? = some (arrV (wT w 1) n (fun j => .int (i32 (M k j)))) := by
  have hp : pr L w k := pr_lt hk (by decide)
  have h := hP.1 k hp
  unfold eO at h
  rw [hk] at h
  exact h
theorem rp_arl {H : Heap} {k n b : Nat} (hP : Rp L w M H) (hk : lk L k = (2, n, b)) : H[wa w k]? = some (arrV (wT w 2) n (fun j => .long (i64 (M k j)))) := by
  have hp : pr L w k := pr_lt hk (by decide)
  have h := hP.1 k hp
  unfold eO at h
  rw [hk] at h
  exact h
theorem rp_arz {H : Heap} {k n b : Nat} (hP : Rp L w M H) (hk : lk L k = (3, n, b)) : H[wa w k]? = some (arrV (wT w 3) n (fun j => .int (i32 (M k j)))) := by
  have hp : pr L w k := pr_lt hk (by decide)
  have h := hP.1 k hp
  unfold eO at h
  rw [hk] at h
  exact h
theorem rp_ar5 {H : Heap} {k n b : Nat} (hP : Rp L w M H) (hk : lk L k = (5, n, b)) : H[wa w k]? = some (arrV (wT w 4) n (fun j => .ref (wa w (b + j)))) := by
  have hp : pr L w k := pr_lt hk (by decide)
  have h := hP.1 k hp
  unfold eO at h
  rw [hk] at h
  exact h
theorem rp_ar6 {H : Heap} {k n b : Nat} (hP : Rp L w M H) (hk : lk L k = (6, n, b)) : H[wa w k]? = some (arrV (wT w 5) n (fun j => .ref (wa w (b + j)))) := by
  have hp : pr L w k := pr_lt hk (by decide)
  have h := hP.1 k hp
  unfold eO at h
  rw [hk] at h
  exact h
theorem rp_ar7 {H : Heap} {k n b : Nat} (hP : Rp L w M H) (hk : lk L k = (7, n, b)) : H[wa w k]? = some (arrV (wT w 6) n (fun j => va_rf (if (j : Int) < wn w then some (wa w (b + j)) else none))) := by
  have hp : pr L w k := pr_lt hk (by decide)
  have h := hP.1 k hp
  unfold eO at h
  rw [hk] at h
  exact h
theorem gx_arr (G : Gc L w X own cc nL fr lo) (i : Nat) {cA : ClassId} {ty : FieldType} (h : (tys w)[i]? = some (cA, ty)) (n : Nat) (z : Nat → Value) : (xs X).isArrayOf (arrV cA n z) ty := (G.2.2.2.2.2.1.2 i _ h).1 n z
theorem vj_iald (G : Gc L w X own cc nL fr lo) {k n b : Nat} {x : Int} (hk : lk L k = (0, n, b)) (hn : n < 2147483648) (hb : 0 ≤ x ∧ x < (n : Int)) (hdg : decode cc pc = .ok (.iaload, 1)) (kk : VJ L w X nL t r M1 M lv (.int (i32 (M k x.toNat)) :: st) (pc + 1)) : VJ L w X nL t r M1 M lv (.int (i32 x) :: .ref (wa w k) :: st) pc := by
  intro H locs ls hP hS hl
  exact W.iald (v := .int (i32 (M k x.toNat))) G.1 G.2.1 (rp_arr hP hk) (gx_arr G 0 rfl n _) (fun q => by cases q) (by rw [arrV_size]; exact i32_in hb hn) (by rw [i32_nat hb hn, arrV_read _ _ (by omega)]) rfl rfl hdg (kk H locs ls hP hS hl)
theorem vj_bald (G : Gc L w X own cc nL fr lo) {k n b : Nat} {x : Int} (hk : lk L k = (1, n, b)) (hn : n < 2147483648) (hb : 0 ≤ x ∧ x < (n : Int)) (hdg : decode cc pc = .ok (.baload, 1)) (kk : VJ L w X nL t r M1 M lv (.int (i32 (M k x.toNat)) :: st) (pc + 1)) : VJ L w X nL t r M1 M lv (.int (i32 x) :: .ref (wa w k) :: st) pc := by
  intro H locs ls hP hS hl
  exact W.bald (v := .int (i32 (M k x.toNat))) G.1 G.2.1 (rp_arb hP hk) (gx_arr G 1 rfl n _) (fun q => by cases q) (by rw [arrV_size]; exact i32_in hb hn) (by rw [i32_nat hb hn, arrV_read _ _ (by omega)]) rfl rfl hdg (kk H locs ls hP hS hl)
theorem vj_zald (G : Gc L w X own cc nL fr lo) {k n b : Nat} {x : Int} (hk : lk L k = (3, n, b)) (hn : n < 2147483648) (hb : 0 ≤ x ∧ x < (n : Int)) (hdg : decode cc pc = .ok (.baload, 1)) (kk : VJ L w X nL t r M1 M lv (.int (i32 (M k x.toNat)) :: st) (pc + 1)) : VJ L w X nL t r M1 M lv (.int (i32 x) :: .ref (wa w k) :: st) pc := by
  intro H locs ls hP hS hl
  exact W.zald (v := .int (i32 (M k x.toNat))) G.1 G.2.1 (rp_arz hP hk) (gx_arr G 3 rfl n _) (fun q => by cases q) (by rw [arrV_size]; exact i32_in hb hn) (by rw [i32_nat hb hn, arrV_read _ _ (by omega)]) rfl rfl hdg (kk H locs ls hP hS hl)
theorem vj_lald (G : Gc L w X own cc nL fr lo) {k n b : Nat} {x : Int} (hk : lk L k = (2, n, b)) (hn : n < 2147483648) (hb : 0 ≤ x ∧ x < (n : Int)) (hdg : decode cc pc = .ok (.laload, 1)) (kk : VJ L w X nL t r M1 M lv (.long (i64 (M k x.toNat)) :: st) (pc + 1)) : VJ L w X nL t r M1 M lv (.int (i32 x) :: .ref (wa w k) :: st) pc := by
  intro H locs ls hP hS hl
  exact W.lald (v := .long (i64 (M k x.toNat))) G.1 G.2.1 (rp_arl hP hk) (gx_arr G 2 rfl n _) (fun q => by cases q) (by rw [arrV_size]; exact i32_in hb hn) (by rw [i32_nat hb hn, arrV_read _ _ (by omega)]) rfl rfl hdg (kk H locs ls hP hS hl)
theorem vj_aald5 (G : Gc L w X own cc nL fr lo) {k n b : Nat} {x : Int} (hk : lk L k = (5, n, b)) (hn : n < 2147483648) (hb : 0 ≤ x ∧ x < (n : Int)) (hdg : decode cc pc = .ok (.aaload, 1)) (kk : VJ L w X nL t r M1 M lv (.ref (wa w (b + x.toNat)) :: st) (pc + 1)) : VJ L w X nL t r M1 M lv (.int (i32 x) :: .ref (wa w k) :: st) pc := by
  intro H locs ls hP hS hl
  exact W.aald (v := .ref (wa w (b + x.toNat))) G.1 G.2.1 (rp_ar5 hP hk) (gx_arr G 4 rfl n _) rfl (fun q => by cases q) (by rw [arrV_size]; exact i32_in hb hn) (by rw [i32_nat hb hn, arrV_read _ _ (by omega)]) rfl rfl hdg (kk H locs ls hP hS hl)
theorem vj_aald6 (G : Gc L w X own cc nL fr lo) {k n b : Nat} {x : Int} (hk : lk L k = (6, n, b)) (hn : n < 2147483648) (hb : 0 ≤ x ∧ x < (n : Int)) (hdg : decode cc pc = .ok (.aaload, 1)) (kk : VJ L w X nL t r M1 M lv (.ref (wa w (b + x.toNat)) :: st) (pc + 1)) : VJ L w X nL t r M1 M lv (.int (i32 x) :: .ref (wa w k) :: st) pc := by
  intro H locs ls hP hS hl
  exact W.aald (v := .ref (wa w (b + x.toNat))) G.1 G.2.1 (rp_ar6 hP hk) (gx_arr G 5 rfl n _) rfl (fun q => by cases q) (by rw [arrV_size]; exact i32_in hb hn) (by rw [i32_nat hb hn, arrV_read _ _ (by omega)]) rfl rfl hdg (kk H locs ls hP hS hl)
/-- the row of things that come: one that is there, or null -/
theorem vj_aald7 (G : Gc L w X own cc nL fr lo) {k n b : Nat} {x : Int} (hk : lk L k = (7, n, b)) (hn : n < 2147483648) (hb : 0 ≤ x ∧ x < (n : Int)) (hdg : decode cc pc = .ok (.aaload, 1)) (kt : x < wn w → VJ L w X nL t r M1 M lv (.ref (wa w (b + x.toNat)) :: st) (pc + 1)) (kf : ¬ x < wn w → VJ L w X nL t r M1 M lv (.null :: st) (pc + 1)) : VJ L w X nL t r M1 M lv (.int (i32 x) :: .ref (wa w k) :: st) pc := by
  intro H locs ls hP hS hl
  by_cases h : x < wn w
  · exact W.aald (v := .ref (wa w (b + x.toNat))) G.1 G.2.1 (rp_ar7 hP hk) (gx_arr G 6 rfl n _) rfl (fun q => by cases q) (by rw [arrV_size]; exact i32_in hb hn) (by rw [i32_nat hb hn, arrV_read _ _ (by omega), if_pos (by omega)]; rfl) rfl rfl hdg (kt h H locs ls hP hS hl)
  · exact W.aald (v := .null) G.1 G.2.1 (rp_ar7 hP hk) (gx_arr G 6 rfl n _) rfl (fun q => by cases q) (by rw [arrV_size]; exact i32_in hb hn) (by rw [i32_nat hb hn, arrV_read _ _ (by omega), if_neg (by omega)]; rfl) rfl rfl hdg (kf h H locs ls hP hS hl)
theorem updV_i {f : Nat → Int} {j : Nat} {v : Int} {x : Value} (hx : x = .int (i32 v)) : updV (fun q => .int (i32 (f q))) j x = fun q => .int (i32 (if q = j then v else f q)) := by
  funext q
  unfold updV
  by_cases e : q = j
  · rw [if_pos e, if_pos e, hx]
  · rw [if_neg e, if_neg e]
theorem updV_l {f : Nat → Int} {j : Nat} {v : Int} : updV (fun q => .long (i64 (f q))) j (.long (i64 v)) = fun q => .long (i64 (if q = j then v else f q)) := by
  funext q
  unfold updV
  by_cases e : q = j
  · rw [if_pos e, if_pos e]
  · rw [if_neg e, if_neg e]
theorem vj_iast (G : Gc L w X own cc nL fr lo) {k n b : Nat} {x v : Int} (hk : lk L k = (0, n, b)) (hn : n < 2147483648) (h9 : k < 900) (hh : k ≠ lh L) (hb : 0 ≤ x ∧ x < (n : Int)) (hv : inR v) (hdg : decode cc pc = .ok (.iastore, 1)) (kk : VJ L w X nL t r M1 (mset M k x.toNat v) lv st (pc + 1)) : VJ L w X nL t r M1 M lv (.int (i32 v) :: .int (i32 x) :: .ref (wa w k) :: st) pc := by
  intro H locs ls hP hS hl
  have hp : pr L w k := pr_lt hk (by decide)
  refine W.iast G.1 G.2.1 (rp_arr hP hk) (gx_arr G 0 rfl n _) (fun q => by cases q) (by rw [arrV_size]; exact i32_in hb hn) rfl rfl hdg fun H1 e z oq => ?_
  refine kk H1 _ ls (rp_row hP G.2.2.2.2.2.2.2.2.2.1 (k_le hk (by decide)) h9 hh ?_ z oq (fun j => ?_)) (hS.put z oq (G.2.2.2.2.2.2.2.2.1.1 _ ⟨k, hp, rfl⟩)) hl
  · unfold eO
    rw [hk, mr_eq]
    show H1[wa w k]? = some (arrV (wT w 0) n (fun j => .int (i32 (if j = x.toNat then v else M k j))))
    rw [e, arrV_store, i32_nat hb hn, updV_i rfl]
  · have ht : tO L k j = 0 := by unfold tO; rw [hk]; rfl
    show rT _ (if j = x.toNat then v else M k j)
    split
    · rw [ht]; exact hv
    · exact hP.2.1 k j
theorem vj_bast (G : Gc L w X own cc nL fr lo) {k n b : Nat} {x v : Int} (hk : lk L k = (1, n, b)) (hn : n < 2147483648) (h9 : k < 900) (hh : k ≠ lh L) (hb : 0 ≤ x ∧ x < (n : Int)) (hdg : decode cc pc = .ok (.bastore, 1)) (kk : VJ L w X nL t r M1 (mset M k x.toNat (w8 v)) lv st (pc + 1)) : VJ L w X nL t r M1 M lv (.int (i32 v) :: .int (i32 x) :: .ref (wa w k) :: st) pc := by
  intro H locs ls hP hS hl
  have hp : pr L w k := pr_lt hk (by decide)
  refine W.bast G.1 G.2.1 (rp_arb hP hk) (gx_arr G 1 rfl n _) (fun q => by cases q) (by rw [arrV_size]; exact i32_in hb hn) rfl rfl hdg fun H1 e z oq => ?_
  refine kk H1 _ ls (rp_row hP G.2.2.2.2.2.2.2.2.2.1 (k_le hk (by decide)) h9 hh ?_ z oq (fun j => ?_)) (hS.put z oq (G.2.2.2.2.2.2.2.2.1.1 _ ⟨k, hp, rfl⟩)) hl
  · unfold eO
    rw [hk, mr_eq]
    show H1[wa w k]? = some (arrV (wT w 1) n (fun j => .int (i32 (if j = x.toNat then w8 v else M k j))))
    rw [e, arrV_store, i32_nat hb hn, updV_i (v := w8 v) (by rw [← i32_b]; rfl)]
  · have ht : tO L k j = 0 := by unfold tO; rw [hk]; rfl
    show rT _ (if j = x.toNat then w8 v else M k j)
    split
    · rw [ht]; exact ir_w8 v
    · exact hP.2.1 k j
theorem vj_zast (G : Gc L w X own cc nL fr lo) {k n b : Nat} {x v : Int} (hk : lk L k = (3, n, b)) (hn : n < 2147483648) (h9 : k < 900) (hh : k ≠ lh L) (hb : 0 ≤ x ∧ x < (n : Int)) (hv : inB v) (hdg : decode cc pc = .ok (.bastore, 1)) (kk : VJ L w X nL t r M1 (mset M k x.toNat v) lv st (pc + 1)) : VJ L w X nL t r M1 M lv (.int (i32 v) :: .int (i32 x) :: .ref (wa w k) :: st) pc := by
  intro H locs ls hP hS hl
  have hp : pr L w k := pr_lt hk (by decide)
  refine W.zast G.1 G.2.1 (rp_arz hP hk) (gx_arr G 3 rfl n _) (fun q => by cases q) (by rw [arrV_size]; exact i32_in hb hn) rfl rfl hdg fun H1 e z oq => ?_
  refine kk H1 _ ls (rp_row hP G.2.2.2.2.2.2.2.2.2.1 (k_le hk (by decide)) h9 hh ?_ z oq (fun j => ?_)) (hS.put z oq (G.2.2.2.2.2.2.2.2.1.1 _ ⟨k, hp, rfl⟩)) hl
  · unfold eO
    rw [hk, mr_eq]
    show H1[wa w k]? = some (arrV (wT w 3) n (fun j => .int (i32 (if j = x.toNat then v else M k j))))
    rw [e, arrV_store, i32_nat hb hn, updV_i (v := v) (by rcases hv with rfl | rfl <;> rfl)]
  · have ht : tO L k j = 3 := by unfold tO; rw [hk]; rfl
    show rT _ (if j = x.toNat then v else M k j)
    split
    · rw [ht]; exact hv
    · exact hP.2.1 k j
theorem vj_last (G : Gc L w X own cc nL fr lo) {k n b : Nat} {x v : Int} (hk : lk L k = (2, n, b)) (hn : n < 2147483648) (h9 : k < 900) (hh : k ≠ lh L) (hb : 0 ≤ x ∧ x < (n : Int)) (hv : in64 v) (hdg : decode cc pc = .ok (.lastore, 1)) (kk : VJ L w X nL t r M1 (mset M k x.toNat v) lv st (pc + 1)) : VJ L w X nL t r M1 M lv (.long (i64 v) :: .int (i32 x) :: .ref (wa w k) :: st) pc := by
  intro H locs ls hP hS hl
  have hp : pr L w k := pr_lt hk (by decide)
  refine W.last G.1 G.2.1 (rp_arl hP hk) (gx_arr G 2 rfl n _) (fun q => by cases q) (by rw [arrV_size]; exact i32_in hb hn) rfl rfl hdg fun H1 e z oq => ?_
  refine kk H1 _ ls (rp_row hP G.2.2.2.2.2.2.2.2.2.1 (k_le hk (by decide)) h9 hh ?_ z oq (fun j => ?_)) (hS.put z oq (G.2.2.2.2.2.2.2.2.1.1 _ ⟨k, hp, rfl⟩)) hl
  · unfold eO
    rw [hk, mr_eq]
    show H1[wa w k]? = some (arrV (wT w 2) n (fun j => .long (i64 (if j = x.toNat then v else M k j))))
    rw [e, arrV_store, i32_nat hb hn, updV_l]
  · have ht : tO L k j = 2 := by unfold tO; rw [hk]; rfl
    show rT _ (if j = x.toNat then v else M k j)
    split
    · rw [ht]; exact hv
    · exact hP.2.1 k j
theorem vj_getf (G : Gc L w X own cc nL fr lo) {k ci : Nat} (hk : lk L k = (4, ci, 0)) {C : String} {T : u_T} {N : Nat} (hc : (lC L)[ci]? = some (C, T, N)) (hin : ∀ c ∈ u_ws C T N, c ∈ ALL) {j idx : Nat} (hj : j < N) (hq : Cond.fieldLink own idx C (T j).2.1 (T j).2.2.1 ∈ ALL) (hd : (T j).1 = C) {v : Value} (hv : (fvs (wa w) (M k) (lf L ci))[j]? = some v) (hdg : decode cc pc = .ok (.getfield idx, 3)) (kk : VJ L w X nL t r M1 M lv (v :: st) (pc + 3)) : VJ L w X nL t r M1 M lv (.ref (wa w k) :: st) pc := by
  intro H locs ls hP hS hl
  obtain ⟨r1, h1, cell, q1, q2, q3, q4⟩ := rp_obj hP hk
  have hr : r1 = (C, T, N) := Option.some.inj (h1.symm.trans hc)
  subst hr
  obtain ⟨hSl, hfc, kC, hkC, hkind⟩ := G.2.2.2.2.2.1.1 ci _ hc
  obtain ⟨cf, kf, fi, f, hi, hsl⟩ := hSl j hj
  have hts := G.2.2.2.2.1
  refine W.getf G.1 G.2.1 G.2.2.2.1 (hts _ hq) (by rw [hd] at hi; exact hi) (u_facts hfc hkC (u_lays hts hin hj) hi).1 q1 (by rw [q3]; exact fun h => by cases h) (v := v) ?_ rfl rfl hdg (kk H locs ls hP hS hl)
  rw [hsl, q4 j hj]
  simp [vp_V, hv]
theorem vj_putf (G : Gc L w X own cc nL fr lo) {k ci : Nat} (hk : lk L k = (4, ci, 0)) (h9 : k < 900) (hh : k ≠ lh L) {C : String} {T : u_T} {N : Nat} (hc : (lC L)[ci]? = some (C, T, N)) (hin : ∀ c ∈ u_ws C T N, c ∈ ALL) {ty0 : Nat → FieldType} (hty : ∀ k, k < N → parseFieldDescriptor (T k).2.2.1 = some (ty0 k)) (hnm : ∀ a, a < N → ∀ b, b < N → a ≠ b → (T a).2.1 ≠ (T b).2.1) {j idx : Nat} (hj : j < N) (hq : Cond.fieldLink own idx C (T j).2.1 (T j).2.2.1 ∈ ALL) (hd : (T j).1 = C) (hfin : (T j).2.2.2 = false) {ty : FieldType} {v : Int} {x : Value} (hde : parseFieldDescriptor (T j).2.2.1 = some ty) (hn : narrow ty x = x) (hfit : fits ty x = true) (hlen : (lf L ci).length = N) (hfv : ∀ c, (lf L ci)[j]? = some c → fv (wa w) (fun j' => if j' = j then v else M k j') j c = x) (hr9 : rT (tO L k j) v) (hdg : decode cc pc = .ok (.putfield idx, 3)) (kk : VJ L w X nL t r M1 (mset M k j v) lv st (pc + 3)) : VJ L w X nL t r M1 M lv (x :: .ref (wa w k) :: st) pc := by
  intro H locs ls hP hS hl
  have hp : pr L w k := pr_lt hk (by decide)
  have hts := G.2.2.2.2.1
  have hap := va_apart (own := own) hts hin ty0 hty hnm G.2.2.2.2.2.1 hc
  obtain ⟨r1, h1, cell, q1, q2, q3, q4⟩ := rp_obj hP hk
  have hr : r1 = (C, T, N) := Option.some.inj (h1.symm.trans hc)
  subst hr
  obtain ⟨hSl, hfc, kC, hkC, hkind⟩ := G.2.2.2.2.2.1.1 ci _ hc
  obtain ⟨cf, kf, fi, f, hi, hsl⟩ := hSl j hj
  have hlay := hts _ (hin _ (u_in_lay hj))
  unfold u_lay at hlay
  rw [if_neg (by rw [hfin]; decide)] at hlay
  have hst := (u_facts hfc hkC (u_lays hts hin hj) hi).1
  have h6 := u_store hfc hkC hkind hlay hi hde hn hfit
  refine W.putK G.1 G.2.1 (f := f) ⟨G.2.2.2.1, hts _ hq, ⟨_, _, _, by rw [hd] at hi; exact hi⟩, hst⟩ (by rw [q2]; exact h6) q1 q3 (by rw [hsl]; exact k2_hasslot (q4 j hj)) rfl rfl hdg fun H1 e z oq => ?_
  rw [hsl] at e
  refine kk H1 _ ls (rp_row hP G.2.2.2.2.2.2.2.2.2.1 (k_le hk (by decide)) h9 hh ?_ z oq (fun j1 => ?_)) (hS.put z oq (G.2.2.2.2.2.2.2.2.1.1 _ ⟨k, hp, rfl⟩)) hl
  · unfold eO
    rw [hk, mr_eq]
    refine ⟨_, hc, ?_⟩
    show t_OB (wa w k) _ N _ H1 (vp_V (fvs (wa w) _ (lf L ci)))
    rw [← fvs_set hfv]
    exact t_OB.to (V := updV (vp_V (fvs (wa w) (M k) (lf L ci))) j x) ⟨_, e, q2, q3, t_set q4 hap hj x⟩ (fun i _ => vp_updV_set (by unfold fvs; rw [List.length_mapIdx, hlen]; exact hj) x i)
  · show rT _ (if j1 = j then v else M k j1)
    split
    · rename_i e1; rw [e1]; exact hr9
    · exact hP.2.1 k j1
theorem vj_iret (G0 : Gx L w X own cc nL fr lo (some .int)) {v : Int} (hv : inR v) (hdg : decode cc pc = .ok (.ireturn, 1)) : VJ L w X nL 1 v M M lv [.int (i32 v)] pc := by
  intro H locs ls hP hS hl
  have G := G0.1
  have hQ := G0.2.2.2
  have hA := G0.2.2.1
  rw [hA] at hS
  rw [show xQ X = _ from hQ]
  rw [hA]
  exact W.iret (v := i32 v) G.1 G.2.1 G0.2.1 (Ct.end (t := 1) rfl hv hP hS) hS.2.2 hdg G.2.2.2.2.2.2.2.1
theorem vj_zret (G0 : Gx L w X own cc nL fr lo (some .boolean)) {v : Int} (hv : inB v) (hdg : decode cc pc = .ok (.ireturn, 1)) : VJ L w X nL 3 v M M lv [.int (i32 v)] pc := by
  intro H locs ls hP hS hl
  have G := G0.1
  have hQ := G0.2.2.2
  have hA := G0.2.2.1
  rw [hA] at hS
  rw [show xQ X = _ from hQ]
  rw [hA]
  exact W.zret (v := i32 v) (ty := .boolean) G.1 G.2.1 G0.2.1 (by rcases hv with rfl | rfl <;> rfl) (Ct.end (t := 3) rfl hv hP hS) hS.2.2 hdg G.2.2.2.2.2.2.2.1
theorem vj_lret (G0 : Gx L w X own cc nL fr lo (some .long)) {v : Int} (hv : in64 v) (hdg : decode cc pc = .ok (.lreturn, 1)) : VJ L w X nL 2 v M M lv [.long (i64 v)] pc := by
  intro H locs ls hP hS hl
  have G := G0.1
  have hQ := G0.2.2.2
  have hA := G0.2.2.1
  rw [hA] at hS
  rw [show xQ X = _ from hQ]
  rw [hA]
  exact W.lret (v := i64 v) G.1 G.2.1 G0.2.1 (Ct.end (t := 2) rfl hv hP hS) hS.2.2 hdg G.2.2.2.2.2.2.2.1
theorem vj_vret (G0 : Gx L w X own cc nL fr lo none) (hdg : decode cc pc = .ok (.return_, 1)) : VJ L w X nL 0 0 M M lv [] pc := by
  intro H locs ls hP hS hl
  have G := G0.1
  have hQ := G0.2.2.2
  have hA := G0.2.2.1
  rw [hA] at hS
  rw [show xQ X = _ from hQ]
  rw [hA]
  exact W.vret G.1 G.2.1 G0.2.1 (Ct.end (t := 0) rfl trivial hP hS) hS.2.2 hdg G.2.2.2.2.2.2.2.1
end MEM
