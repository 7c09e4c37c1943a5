/-! The law's rows: the class's world and a second one side by side. -/
def LJ (L2 : Lay) (X : Cx) (w wR : Wd) (M N : Mm) (lv : List (Nat × Value)) (st : List Value) (pc : Nat) : Prop :=
  ∀ (H : Heap) (locs : List Loc) (ls : Array Slot), Rp LC w M H → Rp L2 wR N H → va_S (xA X) (xs X).heap H locs → lv_has ls 4 lv → W (xp X) (xl X) (xe X) (xR X) (xs X) (xm X) (xa X) (xb X) (xM X) (xc X) H locs (xcn X) (xsn X) (xQ X 0 0 Z0) (F0 (xm X) pc ls st)
section
variable {L2 L3 : Lay} {w wR : Wd} {X : Cx} {own : String} {cc : ByteArray} {fr lo : Nat} {M N : Mm} {lv : List (Nat × Value)} {st st0 : List Value} {pc : Nat}
theorem lj_iconst (G : Gc LC w X own cc 4 fr lo) {n v : Int} (hdg : decode cc pc = .ok (.iconst n, 1)) (hv : n = v) (k : LJ L2 X w wR M N lv (.int (i32 v) :: st) (pc + 1)) : LJ L2 X w wR M N lv st pc := by
  intro H locs ls hP hR hS hl
  subst hv
  exact lv_iconst G.1 G.2.1 hdg rfl (k H locs ls hP hR hS hl)
theorem lj_bipush (G : Gc LC w X own cc 4 fr lo) {n v : Int} (hdg : decode cc pc = .ok (.bipush n, 2)) (hv : (Int8.ofInt n).toInt32 = i32 v) (k : LJ L2 X w wR M N lv (.int (i32 v) :: st) (pc + 2)) : LJ L2 X w wR M N lv st pc := by
  intro H locs ls hP hR hS hl
  exact lv_bipush G.1 G.2.1 hdg hv (k H locs ls hP hR hS hl)
theorem lj_ldc2 (G : Gc LC w X own cc 4 fr lo) {index : Nat} {v : Int} (hdg : decode cc pc = .ok (.ldc2_w index, 3)) {z : Int64} (hq : Cond.constantLong own index z ∈ ALL) (hv : z = i64 v) (k : LJ L2 X w wR M N lv (.long (i64 v) :: st) (pc + 3)) : LJ L2 X w wR M N lv st pc := by
  intro H locs ls hP hR hS hl
  subst hv
  exact lv_ldc2 G.1 G.2.1 G.2.2.2.1 (G.2.2.2.2.1 _ hq) hdg (k H locs ls hP hR hS hl)
theorem lj_aload_n (G : Gc LC w X own cc 4 fr lo) {k : Fin 4} {i p9 : Nat} {x : Nat} (hdg : decode cc pc = .ok (.aload_n k, 1)) (hi : (k : Nat) = i) (hg : lv[p9]? = some (i, .ref x)) (kk : LJ L2 X w wR M N lv (.ref x :: st) (pc + 1)) : LJ L2 X w wR M N lv st pc := by
  intro H locs ls hP hR hS hl
  exact lv_aload_n G.1 G.2.1 hdg hi (lv_at hl p9 hg) (kk H locs ls hP hR hS hl)
theorem lj_iload_n (G : Gc LC w X own cc 4 fr lo) {k : Fin 4} {i p9 : Nat} {x : Int32} (hdg : decode cc pc = .ok (.iload_n k, 1)) (hi : (k : Nat) = i) (hg : lv[p9]? = some (i, .int x)) (kk : LJ L2 X w wR M N lv (.int x :: st) (pc + 1)) : LJ L2 X w wR M N lv st pc := by
  intro H locs ls hP hR hS hl
  exact lv_iload_n G.1 G.2.1 hdg hi (lv_at hl p9 hg) (kk H locs ls hP hR hS hl)
theorem lj_istore_n (G : Gc LC w X own cc 4 fr lo) {k : Fin 4} {i : Nat} {x : Int32} {lv2 : List (Nat × Value)} (hdg : decode cc pc = .ok (.istore_n k, 1)) (hi : (k : Nat) = i) (hn : i < 4) (hl2 : (i, Value.int x) :: lv.filter (fun q => !(q.1 == i) && !(q.1 + 1 == i && q.2.category == 2)) = lv2) (kk : LJ L2 X w wR M N lv2 st (pc + 1)) : LJ L2 X w wR M N lv (.int x :: st) pc := by
  intro H locs ls hP hR hS hl
  exact lv_istore_n G.1 G.2.1 hdg hi hl hn hl2 (fun ls2 h2 => kk H locs ls2 hP hR hS h2)
theorem lj_astore_n (G : Gc LC w X own cc 4 fr lo) {k : Fin 4} {i : Nat} {x : Nat} {lv2 : List (Nat × Value)} (hdg : decode cc pc = .ok (.astore_n k, 1)) (hi : (k : Nat) = i) (hn : i < 4) (hl2 : (i, Value.ref x) :: lv.filter (fun q => !(q.1 == i) && !(q.1 + 1 == i && q.2.category == 2)) = lv2) (kk : LJ L2 X w wR M N lv2 st (pc + 1)) : LJ L2 X w wR M N lv (.ref x :: st) pc := by
  intro H locs ls hP hR hS hl
  exact lv_astore_n G.1 G.2.1 hdg hi hl hn hl2 (fun ls2 h2 => kk H locs ls2 hP hR hS h2)
theorem lj_iinc (G : Gc LC w X own cc 4 fr lo) {i p9 : Nat} {n : Int} {x : Int} {lv2 : List (Nat × Value)} (hdg : decode cc pc = .ok (.iinc i n, 3)) (hg : lv[p9]? = some (i, .int (i32 x))) (hn : i < 4) (hl2 : (i, Value.int (i32 (w32 (x + n)))) :: lv.filter (fun q => !(q.1 == i) && !(q.1 + 1 == i && q.2.category == 2)) = lv2) (kk : LJ L2 X w wR M N lv2 st (pc + 3)) : LJ L2 X w wR M N lv st pc := by
  intro H locs ls hP hR hS hl
  exact lv_iinc G.1 G.2.1 hdg hl hg (i32_add x n) hn hl2 (fun ls2 h2 => kk H locs ls2 hP hR hS h2)
theorem lj_iadd (G : Gc LC w X own cc 4 fr lo) {x y : Int} (hdg : decode cc pc = .ok (.iadd, 1)) (k : LJ L2 X w wR M N lv (.int (i32 (w32 (x + y))) :: st) (pc + 1)) : LJ L2 X w wR M N lv (.int (i32 y) :: .int (i32 x) :: st) pc := by
  intro H locs ls hP hR hS hl
  exact lv_iadd G.1 G.2.1 hdg (by rw [i32_add]; exact k H locs ls hP hR hS hl)
theorem lj_isub (G : Gc LC w X own cc 4 fr lo) {x y : Int} (hdg : decode cc pc = .ok (.isub, 1)) (k : LJ L2 X w wR M N lv (.int (i32 (w32 (x - y))) :: st) (pc + 1)) : LJ L2 X w wR M N lv (.int (i32 y) :: .int (i32 x) :: st) pc := by
  intro H locs ls hP hR hS hl
  exact lv_isub G.1 G.2.1 hdg (by rw [i32_sub]; exact k H locs ls hP hR hS hl)
theorem lj_iand (G : Gc LC w X own cc 4 fr lo) {x y : Int} (hdg : decode cc pc = .ok (.iand, 1)) (k : LJ L2 X w wR M N lv (.int (i32 (ian x y)) :: st) (pc + 1)) : LJ L2 X w wR M N lv (.int (i32 y) :: .int (i32 x) :: st) pc := by
  intro H locs ls hP hR hS hl
  exact lv_iand G.1 G.2.1 hdg (by rw [i32_an]; exact k H locs ls hP hR hS hl)
theorem lj_i2l (G : Gc LC w X own cc 4 fr lo) {x : Int} (hdg : decode cc pc = .ok (.i2l, 1)) (hx : inR x) (k : LJ L2 X w wR M N lv (.long (i64 x) :: st) (pc + 1)) : LJ L2 X w wR M N lv (.int (i32 x) :: st) pc := by
  intro H locs ls hP hR hS hl
  exact lv_i2l G.1 G.2.1 hdg (i32_l hx) (k H locs ls hP hR hS hl)
theorem lj_lshl (G : Gc LC w X own cc 4 fr lo) {x y : Int} (hdg : decode cc pc = .ok (.lshl, 1)) (k : LJ L2 X w wR M N lv (.long (i64 (lsh x y)) :: st) (pc + 1)) : LJ L2 X w wR M N lv (.int (i32 y) :: .long (i64 x) :: st) pc := by
  intro H locs ls hP hR hS hl
  exact lv_lshl G.1 G.2.1 hdg (i64_sh x y) (k H locs ls hP hR hS hl)
theorem lj_land (G : Gc LC w X own cc 4 fr lo) {x y : Int} (hdg : decode cc pc = .ok (.land, 1)) (k : LJ L2 X w wR M N lv (.long (i64 (lan x y)) :: st) (pc + 1)) : LJ L2 X w wR M N lv (.long (i64 y) :: .long (i64 x) :: st) pc := by
  intro H locs ls hP hR hS hl
  exact lv_land G.1 G.2.1 hdg (by rw [i64_an]; exact k H locs ls hP hR hS hl)
theorem lj_lor (G : Gc LC w X own cc 4 fr lo) {x y : Int} (hdg : decode cc pc = .ok (.lor, 1)) (k : LJ L2 X w wR M N lv (.long (i64 (lor x y)) :: st) (pc + 1)) : LJ L2 X w wR M N lv (.long (i64 y) :: .long (i64 x) :: st) pc := by
  intro H locs ls hP hR hS hl
  exact lv_lor G.1 G.2.1 hdg (by rw [i64_or]; exact k H locs ls hP hR hS hl)
theorem lj_goto (G : Gc LC w X own cc 4 fr lo) {off : Int} {tgt : Nat} (hdg : decode cc pc = .ok (.goto off, 3)) (ht : (pc : Int) + off = (tgt : Int)) (k : LJ L2 X w wR M N lv st tgt) : LJ L2 X w wR M N lv st pc := by
  intro H locs ls hP hR hS hl
  exact lv_goto G.1 G.2.1 hdg ht (k H locs ls hP hR hS hl)
theorem lj_icmp_eq (G : Gc LC w X own cc 4 fr lo) {x y off : Int} {tgt : Nat} (hdg : decode cc pc = .ok (.if_icmp .eq off, 3)) (ht : (pc : Int) + off = (tgt : Int)) (hx : inR x) (hy : inR y) (kt : x = y → LJ L2 X w wR M N lv st tgt) (kf : ¬ (x = y) → LJ L2 X w wR M N lv st (pc + 3)) : LJ L2 X w wR M N lv (.int (i32 y) :: .int (i32 x) :: st) pc := by
  intro H locs ls hP hR hS hl
  exact lv_icmp_eq G.1 G.2.1 hdg ht (fun q => kt (by simpa only [i32_eq hx hy, i32_lt hx hy, i32_lt hy hx, i32_le hx hy, i32_le hy hx, ne_eq, Classical.not_not, ge_iff_le, gt_iff_lt] using q) H locs ls hP hR hS hl) (fun q => kf (by simpa only [i32_eq hx hy, i32_lt hx hy, i32_lt hy hx, i32_le hx hy, i32_le hy hx, ne_eq, Classical.not_not, ge_iff_le, gt_iff_lt] using q) H locs ls hP hR hS hl)
theorem lj_icmp_gt (G : Gc LC w X own cc 4 fr lo) {x y off : Int} {tgt : Nat} (hdg : decode cc pc = .ok (.if_icmp .gt off, 3)) (ht : (pc : Int) + off = (tgt : Int)) (hx : inR x) (hy : inR y) (kt : y < x → LJ L2 X w wR M N lv st tgt) (kf : ¬ (y < x) → LJ L2 X w wR M N lv st (pc + 3)) : LJ L2 X w wR M N lv (.int (i32 y) :: .int (i32 x) :: st) pc := by
  intro H locs ls hP hR hS hl
  exact lv_icmp_gt G.1 G.2.1 hdg ht (fun q => kt (by simpa only [i32_eq hx hy, i32_lt hx hy, i32_lt hy hx, i32_le hx hy, i32_le hy hx, ne_eq, Classical.not_not, ge_iff_le, gt_iff_lt] using q) H locs ls hP hR hS hl) (fun q => kf (by simpa only [i32_eq hx hy, i32_lt hx hy, i32_lt hy hx, i32_le hx hy, i32_le hy hx, ne_eq, Classical.not_not, ge_iff_le, gt_iff_lt] using q) H locs ls hP hR hS hl)
theorem lj_if_eq (G : Gc LC w X own cc 4 fr lo) {x off : Int} {tgt : Nat} (hdg : decode cc pc = .ok (.ifCond .eq off, 3)) (ht : (pc : Int) + off = (tgt : Int)) (hx : inR x) (kt : x = 0 → LJ L2 X w wR M N lv st tgt) (kf : ¬ (x = 0) → LJ L2 X w wR M N lv st (pc + 3)) : LJ L2 X w wR M N lv (.int (i32 x) :: st) pc := by
  intro H locs ls hP hR hS hl
  exact lv_if_eq G.1 G.2.1 hdg ht (fun q => kt (by simpa only [i32_0, i32_eq hx ir_0, i32_lt hx ir_0, i32_lt ir_0 hx, i32_le hx ir_0, i32_le ir_0 hx, ne_eq, Classical.not_not, ge_iff_le, gt_iff_lt] using q) H locs ls hP hR hS hl) (fun q => kf (by simpa only [i32_0, i32_eq hx ir_0, i32_lt hx ir_0, i32_lt ir_0 hx, i32_le hx ir_0, i32_le ir_0 hx, ne_eq, Classical.not_not, ge_iff_le, gt_iff_lt] using q) H locs ls hP hR hS hl)
theorem lj_lcmp_eq (G : Gc LC w X own cc 4 fr lo) {x y off : Int} {tgt : Nat} (hdg : decode cc pc = .ok (.lcmp, 1)) (hdg2 : decode cc (pc + 1) = .ok (.ifCond .eq off, 3)) (ht : ((pc + 1 : Nat) : Int) + off = (tgt : Int)) (hx : in64 x) (hy : in64 y) (kt : x = y → LJ L2 X w wR M N lv st tgt) (kf : ¬ (x = y) → LJ L2 X w wR M N lv st (pc + 4)) : LJ L2 X w wR M N lv (.long (i64 y) :: .long (i64 x) :: st) pc := by
  intro H locs ls hP hR hS hl
  have e : (lg_cmp (i64 x) (i64 y)) = i32 (if x < y then -1 else if y < x then 1 else 0) := by
    unfold lg_cmp
    by_cases h1 : x < y
    · have h2 : ¬ y < x := by omega
      have h3 : ¬ x = y := by omega
      simp only [i64_lt hx hy, i64_lt hy hx, i64_eq hx hy, i64_eq hy hx, gt_iff_lt, h1, h2, h3, if_true, if_false]; try rfl
    · by_cases h2 : y < x
      · simp only [i64_lt hx hy, i64_lt hy hx, i64_eq hx hy, i64_eq hy hx, gt_iff_lt, h1, h2, if_true, if_false]; try rfl
      · have h3 : x = y := by omega
        subst h3
        simp only [i64_lt hx hy, i64_eq hx hx, gt_iff_lt, h1, if_true, if_false]; try rfl
  have hr : inR (if x < y then -1 else if y < x then 1 else 0) := by (repeat (first | split | (unfold inR; omega)))
  refine W.lcmp G.1 G.2.1 hdg ?_
  rw [e]
  refine lj_if_eq G (x := if x < y then -1 else if y < x then 1 else 0) hdg2 ht hr (fun q => kt ?_) (fun q => kf ?_) H locs ls hP hR hS hl
  · revert q; (repeat (first | split | omega))
  · revert q; (repeat (first | split | omega))
theorem lj_swOut (G : Gc LC w X own cc 4 fr lo) {dflt l9 h9 : Int} {offs : Array Int} {len : Nat} {x : Int} {tgt : Nat} (hdg : decode cc pc = .ok (.tableswitch dflt l9 h9 offs, len)) (hx : inR x) (h : x < l9 ∨ h9 < x) (ht : (pc : Int) + dflt = (tgt : Int)) (k : LJ L2 X w wR M N lv st tgt) : LJ L2 X w wR M N lv (.int (i32 x) :: st) pc := by
  intro H locs ls hP hR hS hl
  exact lv_tableOut G.1 G.2.1 hdg (by rw [t_i32 hx]; exact h) ht (k H locs ls hP hR hS hl)
theorem lj_swIn (G : Gc LC w X own cc 4 fr lo) {dflt l9 h9 : Int} {offs : Array Int} {len : Nat} {x y off : Int} {tgt : Nat} (hdg : decode cc pc = .ok (.tableswitch dflt l9 h9 offs, len)) (hx : inR x) (e : x = y) (h1 : l9 ≤ y) (h2 : y ≤ h9) (ho : offs[(y - l9).toNat]? = some off) (ht : (pc : Int) + off = (tgt : Int)) (k : LJ L2 X w wR M N lv st tgt) : LJ L2 X w wR M N lv (.int (i32 x) :: st) pc := by
  intro H locs ls hP hR hS hl
  subst e
  exact lv_tableIn G.1 G.2.1 hdg (by rw [t_i32 hx]; omega) (by rw [t_i32 hx]; omega) (by rw [t_i32 hx]; exact ho) ht (k H locs ls hP hR hS hl)
theorem lj_dup (G : Gc LC w X own cc 4 fr lo) {va : Value} (hdg : decode cc pc = .ok (.dup, 1)) (hva : va.category = 1) (k : LJ L2 X w wR M N lv (va :: va :: st) (pc + 1)) : LJ L2 X w wR M N lv (va :: st) pc := by
  intro H locs ls hP hR hS hl
  exact lv_dup G.1 G.2.1 hdg hva (k H locs ls hP hR hS hl)
theorem rp_keep {L : Lay} {w : Wd} {M : Mm} {H H1 : Heap} (h : Rp L w M H) (hq : ∀ q : Nat, Aw L w q → q < H.size → H1[q]? = H[q]?) (hz : lz L w H1.size) : Rp L w M H1 := ⟨fun k hk => (h.1 k hk).kept (hq _ ⟨k, hk, rfl⟩ (h.1 k hk).lt), h.2.1, h.2.2.1, h.2.2.2.1, h.2.2.2.2.1, hz⟩
/-- the script -/
def LwS (X : Cx) (b n : Nat) (xv : Nat → Int32) : Prop := va_X b n xv (xs X) (xs X).heap ∧ b < (xs X).heap.size ∧ xA X = (fun q => (xs X).heap.size ≤ q)
theorem i32_to (x : Int32) : i32 x.toInt = x := Int32.ofInt_toInt x
theorem lj_sld (G : Gc LC w X own cc 4 fr lo) {b n i : Nat} {xv : Nat → Int32} (S : LwS X b n xv) (hn : n ≤ 3072) (hi : i < n) (hdg : decode cc pc = .ok (.iaload, 1)) (k : LJ L2 X w wR M N lv (.int (i32 (xv i).toInt) :: st) (pc + 1)) : LJ L2 X w wR M N lv (.int (i32 (i : Int)) :: .ref b :: st) pc := by
  intro H locs ls hP hR hS hl
  obtain ⟨S1, S2, S3⟩ := S
  have hin : vp_in (i32 (i : Int)) n := i32_in ⟨by omega, by omega⟩ (by omega)
  have e1 : (i32 (i : Int)).toNatClampNeg = i := i32_nn (by omega)
  refine va_sld G.1 G.2.1 S1 S2 (by rw [S3]; exact Nat.not_le.mpr S2) hS hin hdg ?_
  rw [e1]
  have h := k H locs ls hP hR hS hl
  rw [i32_to] at h
  exact h
theorem lj_slen (G : Gc LC w X own cc 4 fr lo) {b n : Nat} {xv : Nat → Int32} (S : LwS X b n xv) (hdg : decode cc pc = .ok (.arraylength, 1)) (k : LJ L2 X w wR M N lv (.int (i32 (n : Int)) :: st) (pc + 1)) : LJ L2 X w wR M N lv (.ref b :: st) pc := by
  intro H locs ls hP hR hS hl
  obtain ⟨S1, S2, S3⟩ := S
  exact va_slen G.1 G.2.1 S1 S2 (by rw [S3]; exact Nat.not_le.mpr S2) hS hdg (k H locs ls hP hR hS hl)
/-- the locals in the loop -/
abbrev lvL (b x m : Nat) (i : Nat) : List (Nat × Value) := [(0, .ref b), (1, .ref x), (2, .ref m), (3, .int (i32 (i : Int)))]
/-- an argument out of the script -/
theorem lj_arg (G : Gc LC w X own code 4 fr lo) {b n x m i k p1 p2 p3 p4 p5 : Nat} {v : Int} {xv : Nat → Int32} (S : LwS X b n xv) (hn : n ≤ 3072) (hi : i + k < n) (hv : v = (k : Int)) (hp : p1 = pc + 1 ∧ p2 = pc + 2 ∧ p3 = pc + 3 ∧ p4 = pc + 4 ∧ p5 = pc + 5) (d0 : decode code pc = .ok (.aload_n 0, 1)) (d1 : decode code p1 = .ok (.iload_n 3, 1)) (d2 : decode code p2 = .ok (.iconst v, 1)) (d3 : decode code p3 = .ok (.iadd, 1)) (d4 : decode code p4 = .ok (.iaload, 1)) (kk : LJ L2 X w wR M N (lvL b x m i) (.int (i32 (xv (i + k)).toInt) :: st) p5) : LJ L2 X w wR M N (lvL b x m i) st pc := by
  obtain ⟨rfl, rfl, rfl, rfl, rfl⟩ := hp
  refine lj_aload_n G (p9 := 0) d0 rfl rfl ?_
  refine lj_iload_n G (p9 := 3) d1 rfl rfl ?_
  refine lj_iconst G (v := (k : Int)) d2 hv ?_
  refine lj_iadd G d3 ?_
  have e : w32 ((i : Int) + (k : Int)) = ((i + k : Nat) : Int) := by rw [w32_s (by omega) (by omega)]; omega
  rw [e]
  exact lj_sld G S hn hi d4 kk
/-- a run of a virtual call -/
theorem run_V {L : Lay} {wq : Wd} {nL : Nat} (G : Gc L wq X own cc nL fr lo) {y : MethodName} {c9 : ByteArray} {maxL : Nat} {ret2 : Option FieldType} {f2 l2 t1 idx k ci : Nat} {As : List Value} {r1 : Int} {M M2 : Mm} {C : String} {T : u_T} {Nf n : Nat} {H : Heap} {locs : List Loc} {ls : Array Slot}
    (hC : Ct L wq y c9 maxL ret2 f2 l2 t1 (.ref (wa wq k) :: As) M r1 M2) (hk : lk L k = (4, ci, 0)) (hc : (lC L)[ci]? = some (C, T, Nf)) (hy : y.cls = C) (q1 : Cond.methodLink own idx y ∈ ALL) (cq : cqV y c9 maxL ret2 n) (hn : As.length = n)
    (hf : f2 + 1 ≤ fr ∧ 8 + (maxL + 11) + l2 ≤ lo) (hW : (st.map fun v => v.category).sum ≤ 8) (hdg : decode cc pc = .ok (.invokevirtual idx, 3)) (hP : Rp L wq M H) (hS : va_S (xA X) (xs X).heap H locs) (hl : lv_has ls nL lv) :
    va_Run (xp X) (xl X) (xe X) (xR X) (xs X) (xm X) (xa X) (xb X) (xM X) (xc X) H locs (xcn X) (xsn X) 0 0 (F0 (xm X) pc ls (As.reverse ++ .ref (wa wq k) :: st)) st (Qx L wq t1 r1 M2 (Value.ref (wa wq k) :: As).toArray) (Aw L wq) := by
  have hcw := cwV (R := xR X) (s := xs X) (args := xa X) (Ts := ALL) (own := own) (index := idx) (C := C) (y := y) (bytes := c9) (maxL := maxL) (ret := ret2) (ws := wsOf y c9 maxL ret2) (ws' := ALL) (rm := { frames := f2, cells := 0, slots := 0, locals := l2 }) (mc := 0) (ms := 0) n G.2.2.2.2.1 (by
      unfold wsV
      refine lt_all (fun c hc1 => ?_) cq.2.2.2.1
      simp only [List.mem_cons, List.not_mem_nil, or_false] at hc1
      rcases hc1 with rfl | rfl | rfl | rfl
      · exact q1
      · exact cq.1
      · rw [← hy]; exact cq.2.1
      · rw [← hy]; exact cq.2.2.1) rfl rfl rfl ⟨hy, cq.2.2.2.2⟩ (gx_rm G hf.1 hf.2)
  refine va_runV (As := As) (rest := st) ⟨G.1, G.2.1, G.2.2.1, G.2.2.2.1, G.2.2.2.2.1⟩ (hC (xl X)) hcw ⟨bx_blind G.2.2.2.2.2.2.2.2.2.2.1 _, ?_, bx_at G hP hS _⟩ rfl hn hl.1 rfl (lv_room hW) hdg ⟨G.2.2.2.2.2.2.2.2.1.2.2.1, G.2.2.2.2.2.2.2.2.1.2.2.2⟩
  obtain ⟨r9, h1, cell, z1, z2, z3, -⟩ := rp_obj hP hk
  have hr9 : r9 = (C, T, Nf) := Option.some.inj (h1.symm.trans hc)
  subst hr9
  exact ⟨cell, z1, by rw [z3]; rfl, by rw [z2]; exact (G.2.2.2.2.2.1.1 ci _ hc).2.1⟩
theorem s_join {A A0 : Nat → Prop} {H0 : Heap} {st0 u : State} {H : Heap} {locs Ls : List Loc} (hA : ∀ q, A q → A0 q) (hS : va_S A0 H0 H locs) (h0 : st0.heap = H) (hF : va_F A st0 u) (hL : ∀ q ∈ Ls, A q.base) : va_S A0 H0 u.heap (locs ++ Ls) := by
  refine ⟨?_, fun q h1 h2 => ?_, fun q hq => ?_⟩
  · exact Nat.le_trans hS.1 (by rw [← h0]; exact hF.1)
  · rw [hF.2 q (by rw [h0]; exact Nat.lt_of_lt_of_le h1 hS.1) (fun z => h2 (hA q z)), h0]
    exact hS.2.1 q h1 h2
  · rcases List.mem_append.mp hq with h | h
    · exact hS.2.2 q h
    · exact hA _ (hL q h)
/-- a call of the class -/
theorem lj_callC (G : Gc LC w X own cc 4 fr lo) (hd : ∀ q, Aw L2 wR q → ¬ Aw LC w q) (hz : ∀ n, lz L2 wR n) {y : MethodName} {c9 : ByteArray} {maxL : Nat} {ret2 : Option FieldType} {f2 l2 t1 idx n : Nat} {As : List Value} {r1 : Int} {M2 : Mm}
    (hC : Ct LC w y c9 maxL ret2 f2 l2 t1 (.ref (wa w 0) :: As) M r1 M2) (hy : y.cls = "WhoRules") (q1 : Cond.methodLink own idx y ∈ ALL) (cq : cqV y c9 maxL ret2 n) (hn : As.length = n) (hf : f2 + 1 ≤ fr ∧ 8 + (maxL + 11) + l2 ≤ lo) (hW : (st.map fun v => v.category).sum ≤ 8) (hdg : decode cc pc = .ok (.invokevirtual idx, 3)) (hst : st0 = As.reverse ++ .ref (wa w 0) :: st)
    (kk : oR t1 r1 → LJ L2 X w wR M2 N lv ((oV t1 w r1).toList ++ st) (pc + 3)) : LJ L2 X w wR M N lv st0 pc := by
  subst hst
  intro H locs ls hP hR hS hl T0 hT Y
  obtain ⟨v, st₀, u, T', Ls, h0, Y', hL, e1, e2, ⟨hv, hRr, hP2, hF⟩, stp⟩ := run_V G hC lkC_0 clC_6 hy q1 cq hn hf hW hdg hP hS hl T0 hT Y
  cases hv
  have hS2 : va_S (xA X) (xs X).heap T'.heap (locs ++ Ls) := by rw [e1]; exact s_join G.2.2.2.2.2.2.2.2.1.1 hS h0 hF hL
  have hR2 : Rp L2 wR N T'.heap := rp_keep hR (fun q hq hlt => by rw [e1, hF.2 q (by rw [h0]; exact hlt) (hd q hq), h0]) (hz _)
  obtain ⟨t2, a1, b1⟩ := kk hRr T'.heap (locs ++ Ls) ls (by rw [e1]; exact hP2) hR2 hS2 hl T' rfl Y'
  exact ⟨t2, stp t2 a1, b1⟩
/-- a call of the reference -/
theorem lj_callR (G : Gc LR wR X own cc 4 fr lo) (hd : ∀ q, Aw LR wR q → ¬ Aw LC w q) {y : MethodName} {c9 : ByteArray} {maxL : Nat} {ret2 : Option FieldType} {f2 l2 t1 idx n : Nat} {As : List Value} {r1 : Int} {N2 : Mm}
    (hC : Ct LR wR y c9 maxL ret2 f2 l2 t1 (.ref (wa wR 0) :: As) N r1 N2) (hy : y.cls = "WhoRulesModel") (q1 : Cond.methodLink own idx y ∈ ALL) (cq : cqV y c9 maxL ret2 n) (hn : As.length = n) (hf : f2 + 1 ≤ fr ∧ 8 + (maxL + 11) + l2 ≤ lo) (hW : (st.map fun v => v.category).sum ≤ 8) (hdg : decode cc pc = .ok (.invokevirtual idx, 3)) (hst : st0 = As.reverse ++ .ref (wa wR 0) :: st)
    (kk : oR t1 r1 → LJ LR X w wR M N2 lv ((oV t1 wR r1).toList ++ st) (pc + 3)) : LJ LR X w wR M N lv st0 pc := by
  subst hst
  intro H locs ls hP hR hS hl T0 hT Y
  obtain ⟨v, st₀, u, T', Ls, h0, Y', hL, e1, e2, ⟨hv, hRr, hP2, hF⟩, stp⟩ := run_V G hC lkR_0 clR_0 hy q1 cq hn hf hW hdg hR hS hl T0 hT Y
  cases hv
  have hS2 : va_S (xA X) (xs X).heap T'.heap (locs ++ Ls) := by rw [e1]; exact s_join G.2.2.2.2.2.2.2.2.1.1 hS h0 hF hL
  have hP3 : Rp LC w M T'.heap := rp_keep hP (fun q hq hlt => by rw [e1, hF.2 q (by rw [h0]; exact hlt) (fun z => hd q z hq), h0]) trivial
  obtain ⟨t2, a1, b1⟩ := kk hRr T'.heap (locs ++ Ls) ls hP3 (by rw [e1]; exact hP2) hS2 hl T' rfl Y'
  exact ⟨t2, stp t2 a1, b1⟩
/-- a constructor of the second world -/
theorem lj_callI (G : Gc L2 wR X own cc 4 fr lo) (hd : ∀ q, Aw L3 wR q → ¬ Aw LC w q) (hA : ∀ q, Aw L3 wR q → xA X q) {y : MethodName} {c9 : ByteArray} {maxL f2 c2 s2 l2 idx bb n : Nat} {As : List Value} {N2 : Mm}
    (hC : Ctn L2 L3 wR y c9 maxL none f2 c2 s2 l2 0 (.ref bb :: As) N 0 N2)
    (q1 : Cond.methodLink own idx y ∈ ALL) (q2 : Cond.instanceMethod y ∈ ALL ∧ Cond.initialized y.cls ∈ ALL ∧ Cond.code y c9 maxL none ∈ ALL ∧ (y.cls ≠ "java/lang/invoke/MethodHandle" ∧ y.cls ≠ "java/lang/invoke/VarHandle" ∧ (parseMethodDescriptor y.desc).map (fun d => d.parameters.length) = some n)) (hi : y.name = "<init>") (hn : As.length = n)
    (hf : f2 + 1 ≤ fr ∧ 8 + (maxL + 11) + l2 ≤ lo) (hr : xcn X + c2 ≤ (xR X).cells ∧ xsn X + s2 ≤ (xR X).slots) (hW : (st.map fun v => v.category).sum ≤ 8) (hdg : decode cc pc = .ok (.invokespecial idx, 3)) (hst : st0 = As.reverse ++ .ref bb :: st)
    (kk : LJ L3 (xInc X c2 s2) w wR M N2 lv st (pc + 3)) : LJ L2 X w wR M N lv st0 pc := by
  subst hst
  intro H locs ls hP hR hS hl T0 hT Y
  have hG : GoodIn ALL (wsOf y c9 maxL none) := lt_all (m1 := []) (fun c h => absurd h List.not_mem_nil) q2.2.2.1
  have hts := G.2.2.2.2.1
  have hcw := cwI (R := xR X) (s := xs X) (args := xa X) (Ts := ALL) (own := own) (index := idx) (y := y) (bytes := c9) (maxL := maxL) (ws := wsOf y c9 maxL none) (rm := { frames := f2, cells := c2, slots := s2, locals := l2 }) (mc := c2) (ms := s2) n G.2.2.2.2.1 hG rfl rfl rfl (hts _ q2.2.1) (hts _ q1) (hts _ q2.1) hi q2.2.2.2 ⟨Nat.le_trans hf.1 G.2.2.2.2.2.2.2.2.2.2.2.1, Nat.le_trans hf.2 G.2.2.2.2.2.2.2.2.2.2.2.2⟩
  have hrun : va_Run (xp X) (xl X) (xe X) (xR X) (xs X) (xm X) (xa X) (xb X) (xM X) (xc X) H locs (xcn X) (xsn X) c2 s2 (F0 (xm X) pc ls (As.reverse ++ .ref bb :: st)) st (Qx L3 wR 0 0 N2 (Value.ref bb :: As).toArray) (Aw L3 wR) := va_runI (As := As) (rest := st) ⟨G.1, G.2.1, G.2.2.1, G.2.2.2.1, G.2.2.2.2.1⟩ (hC (xl X)) hcw ⟨bx_blind G.2.2.2.2.2.2.2.2.2.2.1 _, bx_at G hR hS _⟩ rfl hn hl.1 rfl (lv_room hW) hdg hr
  obtain ⟨v, st₀, u, T', Ls, h0, Y', hL, e1, e2, ⟨hv, hRr, hP2, hF⟩, stp⟩ := hrun T0 hT Y
  cases hv
  have hS2 : va_S (xA X) (xs X).heap T'.heap (locs ++ Ls) := by rw [e1]; exact s_join hA hS h0 hF hL
  have hP3 : Rp LC w M T'.heap := rp_keep hP (fun q hq hlt => by rw [e1, hF.2 q (by rw [h0]; exact hlt) (fun z => hd q z hq), h0]) trivial
  obtain ⟨t2, a1, b1⟩ := kk T'.heap (locs ++ Ls) ls hP3 (by rw [e1]; exact hP2) hS2 hl T' rfl Y'
  exact ⟨t2, stp t2 a1, b1⟩
/-- a new object of the second world -/
theorem lj_newR (G : Gc L2 wR X own cc 4 fr lo) {k ci idx : Nat} (g : Grow L2 L3 [k]) (hk : lk L3 k = (4, ci, 0)) {C : String} {T : u_T} {Nf : Nat} (hcl : (lC L2)[ci]? = some (C, T, Nf)) (hin : ∀ c ∈ u_ws C T Nf, c ∈ ALL) {ty0 : Nat → FieldType} (hty : ∀ k, k < Nf → parseFieldDescriptor (T k).2.2.1 = some (ty0 k)) (hdf : ∀ j, j < Nf → defaultValue (ty0 j) = vp_V (fvs (wa wR) (N k) (lf L3 ci)) j) (ha : ∀ m, lz L2 wR m → wa wR k = m) (hz : ∀ m, lz L2 wR m → lz L3 wR (m + 1)) (h0 : ∀ j, N k j = 0) (q1 : Cond.classLink own idx C ∈ ALL) (q2 : Cond.instantiable C Nf ∈ ALL) (q3 : Cond.initialized C ∈ ALL) (hr : xcn X + 1 ≤ (xR X).cells ∧ xsn X + Nf ≤ (xR X).slots) (hdg : decode cc pc = .ok (.new idx, 3)) (kk : LJ L3 (xInc X 1 Nf) w wR M N lv (.ref (wa wR k) :: st) (pc + 3)) : LJ L2 X w wR M N lv st pc := by
  intro H locs ls hP hR hS hl
  have hwa := ha _ hR.2.2.2.2.2
  have hts := G.2.2.2.2.1
  have hKn := G.2.2.2.2.2.1.1 ci _ hcl
  refine W.newcK G.1 G.2.1 G.2.2.2.1 (hts _ q1) (hts _ q2) (hts _ q3) rfl hdg hr.1 hr.2 hKn.2.1 rfl fun H1 kC hkC e1 z1 o1 => ?_
  have hR1 : Rp L3 wR N H1 := by
    refine grow_rp g hR o1 (fun k' hk' => ?_) (fun k' hk' => ?_) (by rw [z1]; exact hz _ hR.2.2.2.2.2)
    · have e : k' = k := by simpa using hk'
      subst e
      unfold eO
      rw [hk, g.1, hwa]
      exact ⟨_, hcl, (u_born ty0 hts hin hKn hkC e1 hty).to hdf⟩
    · have e : k' = k := by simpa using hk'
      subst e; exact h0
  have h := kk H1 locs ls (rp_keep hP (fun q _ hlt => o1 q hlt) trivial) hR1 (s_push (fun _ => trivial) hS z1 o1) hl
  rw [hwa] at h
  exact h
theorem lj_to {w' w2 : Wd} {M' N' : Mm} (h : ∀ H : Heap, Rp LC w M H → Rp L2 wR N H → Rp LC w' M' H ∧ Rp L3 w2 N' H) (kk : LJ L3 X w' w2 M' N' lv st pc) : LJ L2 X w wR M N lv st pc := fun H locs ls hP hR hS hl => kk H locs ls (h H hP hR).1 (h H hP hR).2 hS hl
end
