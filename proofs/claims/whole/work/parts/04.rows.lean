/-! One row an instruction, over worlds by a layout. -/
section ROWS
variable {L : Lay} {w : Wd} {X : Cx} {own : String} {cc : ByteArray} {nL fr lo : Nat} {t : Nat} {r : Int} {M1 M : Mm} {lv : List (Nat × Value)} {st : List Value} {pc : Nat}
theorem vj_iconst (G : Gc L w X own cc nL fr lo) {n v : Int} (hdg : decode cc pc = .ok (.iconst n, 1)) (hv : n = v) (k : VJ L w X nL t r M1 M lv (.int (i32 v) :: st) (pc + 1)) : VJ L w X nL t r M1 M lv st pc := by
  intro H locs ls hP hS hl
  subst hv
  exact lv_iconst G.1 G.2.1 hdg rfl (k H locs ls hP hS hl)
theorem vj_bipush (G : Gc L w X own cc nL fr lo) {n v : Int} (hdg : decode cc pc = .ok (.bipush n, 2)) (hv : (Int8.ofInt n).toInt32 = i32 v) (k : VJ L w X nL t r M1 M lv (.int (i32 v) :: st) (pc + 2)) : VJ L w X nL t r M1 M lv st pc := by
  intro H locs ls hP hS hl
  exact lv_bipush G.1 G.2.1 hdg hv (k H locs ls hP hS hl)
theorem vj_sipush (G : Gc L w X own cc nL fr lo) {n v : Int} (hdg : decode cc pc = .ok (.sipush n, 3)) (hv : (Int16.ofInt n).toInt32 = i32 v) (k : VJ L w X nL t r M1 M lv (.int (i32 v) :: st) (pc + 3)) : VJ L w X nL t r M1 M lv st pc := by
  intro H locs ls hP hS hl
  exact lv_sipush G.1 G.2.1 hdg hv (k H locs ls hP hS hl)
theorem vj_lconst (G : Gc L w X own cc nL fr lo) {n : Fin 2} {v : Int} (hdg : decode cc pc = .ok (.lconst n, 1)) (hv : Int64.ofNat (n : Nat) = i64 v) (k : VJ L w X nL t r M1 M lv (.long (i64 v) :: st) (pc + 1)) : VJ L w X nL t r M1 M lv st pc := by
  intro H locs ls hP hS hl
  exact lv_lconst G.1 G.2.1 hdg hv (k H locs ls hP hS hl)
theorem vj_ldc (G : Gc L w X own cc nL fr lo) {index : Nat} {v : Int} (hdg : decode cc pc = .ok (.ldc index, 2)) {z : Int32} (hq : Cond.constant own index z ∈ ALL) (hv : z = i32 v) (k : VJ L w X nL t r M1 M lv (.int (i32 v) :: st) (pc + 2)) : VJ L w X nL t r M1 M lv st pc := by
  intro H locs ls hP hS hl
  subst hv
  exact lv_ldc G.1 G.2.1 G.2.2.2.1 (G.2.2.2.2.1 _ hq) hdg (k H locs ls hP hS hl)
theorem vj_ldcw (G : Gc L w X own cc nL fr lo) {index : Nat} {v : Int} (hdg : decode cc pc = .ok (.ldc_w index, 3)) {z : Int32} (hq : Cond.constant own index z ∈ ALL) (hv : z = i32 v) (k : VJ L w X nL t r M1 M lv (.int (i32 v) :: st) (pc + 3)) : VJ L w X nL t r M1 M lv st pc := by
  intro H locs ls hP hS hl
  subst hv
  exact lv_ldcw G.1 G.2.1 G.2.2.2.1 (G.2.2.2.2.1 _ hq) hdg (k H locs ls hP hS hl)
theorem vj_ldc2 (G : Gc L w X own cc nL fr lo) {index : Nat} {v : Int} (hdg : decode cc pc = .ok (.ldc2_w index, 3)) {z : Int64} (hq : Cond.constantLong own index z ∈ ALL) (hv : z = i64 v) (k : VJ L w X nL t r M1 M lv (.long (i64 v) :: st) (pc + 3)) : VJ L w X nL t r M1 M lv st pc := by
  intro H locs ls hP hS hl
  subst hv
  exact lv_ldc2 G.1 G.2.1 G.2.2.2.1 (G.2.2.2.2.1 _ hq) hdg (k H locs ls hP hS hl)
theorem vj_iload_n (G : Gc L w X own cc nL fr lo) {k : Fin 4} {i p9 : Nat} {x : Int32} (hdg : decode cc pc = .ok (.iload_n k, 1)) (hi : (k : Nat) = i) (hg : lv[p9]? = some (i, .int x)) (kk : VJ L w X nL t r M1 M lv (.int x :: st) (pc + 1)) : VJ L w X nL t r M1 M lv st pc := by
  intro H locs ls hP hS hl
  exact lv_iload_n G.1 G.2.1 hdg hi (lv_at hl p9 hg) (kk H locs ls hP hS hl)
theorem vj_iload (G : Gc L w X own cc nL fr lo) {i p9 : Nat} {x : Int32} (hdg : decode cc pc = .ok (.iload i, 2)) (hg : lv[p9]? = some (i, .int x)) (kk : VJ L w X nL t r M1 M lv (.int x :: st) (pc + 2)) : VJ L w X nL t r M1 M lv st pc := by
  intro H locs ls hP hS hl
  exact lv_iload G.1 G.2.1 hdg (lv_at hl p9 hg) (kk H locs ls hP hS hl)
theorem vj_lload_n (G : Gc L w X own cc nL fr lo) {k : Fin 4} {i p9 : Nat} {x : Int64} (hdg : decode cc pc = .ok (.lload_n k, 1)) (hi : (k : Nat) = i) (hg : lv[p9]? = some (i, .long x)) (kk : VJ L w X nL t r M1 M lv (.long x :: st) (pc + 1)) : VJ L w X nL t r M1 M lv st pc := by
  intro H locs ls hP hS hl
  exact lv_lload_n G.1 G.2.1 hdg hi (lv_at hl p9 hg) (kk H locs ls hP hS hl)
theorem vj_lload (G : Gc L w X own cc nL fr lo) {i p9 : Nat} {x : Int64} (hdg : decode cc pc = .ok (.lload i, 2)) (hg : lv[p9]? = some (i, .long x)) (kk : VJ L w X nL t r M1 M lv (.long x :: st) (pc + 2)) : VJ L w X nL t r M1 M lv st pc := by
  intro H locs ls hP hS hl
  exact lv_lload G.1 G.2.1 hdg (lv_at hl p9 hg) (kk H locs ls hP hS hl)
theorem vj_aload_n (G : Gc L w X own cc nL fr lo) {k : Fin 4} {i p9 : Nat} {x : Nat} (hdg : decode cc pc = .ok (.aload_n k, 1)) (hi : (k : Nat) = i) (hg : lv[p9]? = some (i, .ref x)) (kk : VJ L w X nL t r M1 M lv (.ref x :: st) (pc + 1)) : VJ L w X nL t r M1 M lv st pc := by
  intro H locs ls hP hS hl
  exact lv_aload_n G.1 G.2.1 hdg hi (lv_at hl p9 hg) (kk H locs ls hP hS hl)
theorem vj_aload (G : Gc L w X own cc nL fr lo) {i p9 : Nat} {x : Nat} (hdg : decode cc pc = .ok (.aload i, 2)) (hg : lv[p9]? = some (i, .ref x)) (kk : VJ L w X nL t r M1 M lv (.ref x :: st) (pc + 2)) : VJ L w X nL t r M1 M lv st pc := by
  intro H locs ls hP hS hl
  exact lv_aload G.1 G.2.1 hdg (lv_at hl p9 hg) (kk H locs ls hP hS hl)
theorem vj_aload_nN (G : Gc L w X own cc nL fr lo) {k : Fin 4} {i p9 : Nat} (hdg : decode cc pc = .ok (.aload_n k, 1)) (hi : (k : Nat) = i) (hg : lv[p9]? = some (i, .null)) (kk : VJ L w X nL t r M1 M lv (.null :: st) (pc + 1)) : VJ L w X nL t r M1 M lv st pc := by
  intro H locs ls hP hS hl
  exact lv_aload_nN G.1 G.2.1 hdg hi (lv_at hl p9 hg) (kk H locs ls hP hS hl)
theorem vj_istore_n (G : Gc L w X own cc nL fr lo) {k : Fin 4} {i : Nat} {x : Int32} {lv2 : List (Nat × Value)} (hdg : decode cc pc = .ok (.istore_n k, 1)) (hi : (k : Nat) = i) (hn : i < nL) (hl2 : (i, Value.int x) :: lv.filter (fun q => !(q.1 == i) && !(q.1 + 1 == i && q.2.category == 2)) = lv2) (kk : VJ L w X nL t r M1 M lv2 st (pc + 1)) : VJ L w X nL t r M1 M lv (.int x :: st) pc := by
  intro H locs ls hP hS hl
  exact lv_istore_n G.1 G.2.1 hdg hi hl hn hl2 (fun ls2 h2 => kk H locs ls2 hP hS h2)
theorem vj_istore (G : Gc L w X own cc nL fr lo) {i : Nat} {x : Int32} {lv2 : List (Nat × Value)} (hdg : decode cc pc = .ok (.istore i, 2)) (hn : i < nL) (hl2 : (i, Value.int x) :: lv.filter (fun q => !(q.1 == i) && !(q.1 + 1 == i && q.2.category == 2)) = lv2) (kk : VJ L w X nL t r M1 M lv2 st (pc + 2)) : VJ L w X nL t r M1 M lv (.int x :: st) pc := by
  intro H locs ls hP hS hl
  exact lv_istore G.1 G.2.1 hdg hl hn hl2 (fun ls2 h2 => kk H locs ls2 hP hS h2)
theorem vj_astore_n (G : Gc L w X own cc nL fr lo) {k : Fin 4} {i : Nat} {x : Nat} {lv2 : List (Nat × Value)} (hdg : decode cc pc = .ok (.astore_n k, 1)) (hi : (k : Nat) = i) (hn : i < nL) (hl2 : (i, Value.ref x) :: lv.filter (fun q => !(q.1 == i) && !(q.1 + 1 == i && q.2.category == 2)) = lv2) (kk : VJ L w X nL t r M1 M lv2 st (pc + 1)) : VJ L w X nL t r M1 M lv (.ref x :: st) pc := by
  intro H locs ls hP hS hl
  exact lv_astore_n G.1 G.2.1 hdg hi hl hn hl2 (fun ls2 h2 => kk H locs ls2 hP hS h2)
theorem vj_astore (G : Gc L w X own cc nL fr lo) {i : Nat} {x : Nat} {lv2 : List (Nat × Value)} (hdg : decode cc pc = .ok (.astore i, 2)) (hn : i < nL) (hl2 : (i, Value.ref x) :: lv.filter (fun q => !(q.1 == i) && !(q.1 + 1 == i && q.2.category == 2)) = lv2) (kk : VJ L w X nL t r M1 M lv2 st (pc + 2)) : VJ L w X nL t r M1 M lv (.ref x :: st) pc := by
  intro H locs ls hP hS hl
  exact lv_astore G.1 G.2.1 hdg hl hn hl2 (fun ls2 h2 => kk H locs ls2 hP hS h2)
theorem vj_lstore_n (G : Gc L w X own cc nL fr lo) {k : Fin 4} {i : Nat} {x : Int64} {lv2 : List (Nat × Value)} (hdg : decode cc pc = .ok (.lstore_n k, 1)) (hi : (k : Nat) = i) (hn : i + 1 < nL) (hl2 : (i, Value.long x) :: lv.filter (fun q => !(q.1 == i) && (!(q.1 == i + 1) && !(q.1 + 1 == i && q.2.category == 2))) = lv2) (kk : VJ L w X nL t r M1 M lv2 st (pc + 1)) : VJ L w X nL t r M1 M lv (.long x :: st) pc := by
  intro H locs ls hP hS hl
  exact lv_lstore_n G.1 G.2.1 hdg hi hl hn hl2 (fun ls2 h2 => kk H locs ls2 hP hS h2)
theorem vj_lstore (G : Gc L w X own cc nL fr lo) {i : Nat} {x : Int64} {lv2 : List (Nat × Value)} (hdg : decode cc pc = .ok (.lstore i, 2)) (hn : i + 1 < nL) (hl2 : (i, Value.long x) :: lv.filter (fun q => !(q.1 == i) && (!(q.1 == i + 1) && !(q.1 + 1 == i && q.2.category == 2))) = lv2) (kk : VJ L w X nL t r M1 M lv2 st (pc + 2)) : VJ L w X nL t r M1 M lv (.long x :: st) pc := by
  intro H locs ls hP hS hl
  exact lv_lstore G.1 G.2.1 hdg hl hn hl2 (fun ls2 h2 => kk H locs ls2 hP hS h2)
theorem vj_iinc (G : Gc L w X own cc nL fr lo) {i p9 : Nat} {n : Int} {x : Int} {lv2 : List (Nat × Value)} (hdg : decode cc pc = .ok (.iinc i n, 3)) (hg : lv[p9]? = some (i, .int (i32 x))) (hn : i < nL) (hl2 : (i, Value.int (i32 (w32 (x + n)))) :: lv.filter (fun q => !(q.1 == i) && !(q.1 + 1 == i && q.2.category == 2)) = lv2) (kk : VJ L w X nL t r M1 M lv2 st (pc + 3)) : VJ L w X nL t r M1 M lv st pc := by
  intro H locs ls hP hS hl
  exact lv_iinc G.1 G.2.1 hdg hl hg (i32_add x n) hn hl2 (fun ls2 h2 => kk H locs ls2 hP hS h2)
theorem vj_sub {lv2 : List (Nat × Value)} (ks : List Nat) (h : lv_pick lv ks = lv2) (k : VJ L w X nL t r M1 M lv2 st pc) : VJ L w X nL t r M1 M lv st pc := fun H locs ls hP hS hl => k H locs ls hP hS (lv_sub hl ks h)
theorem vj_iadd (G : Gc L w X own cc nL fr lo) {x y : Int} (hdg : decode cc pc = .ok (.iadd, 1)) (k : VJ L w X nL t r M1 M lv (.int (i32 (w32 (x + y))) :: st) (pc + 1)) : VJ L w X nL t r M1 M lv (.int (i32 y) :: .int (i32 x) :: st) pc := by
  intro H locs ls hP hS hl
  exact lv_iadd G.1 G.2.1 hdg (by rw [i32_add]; exact k H locs ls hP hS hl)
theorem vj_isub (G : Gc L w X own cc nL fr lo) {x y : Int} (hdg : decode cc pc = .ok (.isub, 1)) (k : VJ L w X nL t r M1 M lv (.int (i32 (w32 (x - y))) :: st) (pc + 1)) : VJ L w X nL t r M1 M lv (.int (i32 y) :: .int (i32 x) :: st) pc := by
  intro H locs ls hP hS hl
  exact lv_isub G.1 G.2.1 hdg (by rw [i32_sub]; exact k H locs ls hP hS hl)
theorem vj_imul (G : Gc L w X own cc nL fr lo) {x y : Int} (hdg : decode cc pc = .ok (.imul, 1)) (k : VJ L w X nL t r M1 M lv (.int (i32 (w32 (x * y))) :: st) (pc + 1)) : VJ L w X nL t r M1 M lv (.int (i32 y) :: .int (i32 x) :: st) pc := by
  intro H locs ls hP hS hl
  exact lv_imul G.1 G.2.1 hdg (by rw [i32_mul]; exact k H locs ls hP hS hl)
theorem vj_iand (G : Gc L w X own cc nL fr lo) {x y : Int} (hdg : decode cc pc = .ok (.iand, 1)) (k : VJ L w X nL t r M1 M lv (.int (i32 (ian x y)) :: st) (pc + 1)) : VJ L w X nL t r M1 M lv (.int (i32 y) :: .int (i32 x) :: st) pc := by
  intro H locs ls hP hS hl
  exact lv_iand G.1 G.2.1 hdg (by rw [i32_an]; exact k H locs ls hP hS hl)
theorem vj_ior (G : Gc L w X own cc nL fr lo) {x y : Int} (hdg : decode cc pc = .ok (.ior, 1)) (k : VJ L w X nL t r M1 M lv (.int (i32 (ior x y)) :: st) (pc + 1)) : VJ L w X nL t r M1 M lv (.int (i32 y) :: .int (i32 x) :: st) pc := by
  intro H locs ls hP hS hl
  exact lv_ior G.1 G.2.1 hdg (by rw [i32_or]; exact k H locs ls hP hS hl)
theorem vj_ixor (G : Gc L w X own cc nL fr lo) {x y : Int} (hdg : decode cc pc = .ok (.ixor, 1)) (k : VJ L w X nL t r M1 M lv (.int (i32 (ixo x y)) :: st) (pc + 1)) : VJ L w X nL t r M1 M lv (.int (i32 y) :: .int (i32 x) :: st) pc := by
  intro H locs ls hP hS hl
  exact lv_ixor G.1 G.2.1 hdg (by rw [i32_xo]; exact k H locs ls hP hS hl)
theorem vj_ishl (G : Gc L w X own cc nL fr lo) {x y : Int} (hdg : decode cc pc = .ok (.ishl, 1)) (k : VJ L w X nL t r M1 M lv (.int (i32 (ish x y)) :: st) (pc + 1)) : VJ L w X nL t r M1 M lv (.int (i32 y) :: .int (i32 x) :: st) pc := by
  intro H locs ls hP hS hl
  exact lv_ishl G.1 G.2.1 hdg (by rw [i32_sh]; exact k H locs ls hP hS hl)
theorem vj_ishr (G : Gc L w X own cc nL fr lo) {x y : Int} (hdg : decode cc pc = .ok (.ishr, 1)) (k : VJ L w X nL t r M1 M lv (.int (i32 (isr x y)) :: st) (pc + 1)) : VJ L w X nL t r M1 M lv (.int (i32 y) :: .int (i32 x) :: st) pc := by
  intro H locs ls hP hS hl
  exact lv_ishr G.1 G.2.1 hdg (by rw [i32_sr]; exact k H locs ls hP hS hl)
theorem vj_iushr (G : Gc L w X own cc nL fr lo) {x y : Int} (hdg : decode cc pc = .ok (.iushr, 1)) (k : VJ L w X nL t r M1 M lv (.int (i32 (isu x y)) :: st) (pc + 1)) : VJ L w X nL t r M1 M lv (.int (i32 y) :: .int (i32 x) :: st) pc := by
  intro H locs ls hP hS hl
  exact lv_iushr G.1 G.2.1 hdg (i32_su x y) (k H locs ls hP hS hl)
theorem vj_idiv (G : Gc L w X own cc nL fr lo) {x y : Int} (hdg : decode cc pc = .ok (.idiv, 1)) (hy : inR y) (h0 : y ≠ 0) (k : VJ L w X nL t r M1 M lv (.int (i32 (idv x y)) :: st) (pc + 1)) : VJ L w X nL t r M1 M lv (.int (i32 y) :: .int (i32 x) :: st) pc := by
  intro H locs ls hP hS hl
  exact lv_idiv G.1 G.2.1 hdg (fun q => h0 ((i32_eq hy ir_0).mp q)) (by rw [i32_dv]; exact k H locs ls hP hS hl)
theorem vj_irem (G : Gc L w X own cc nL fr lo) {x y : Int} (hdg : decode cc pc = .ok (.irem, 1)) (hy : inR y) (h0 : y ≠ 0) (k : VJ L w X nL t r M1 M lv (.int (i32 (irm x y)) :: st) (pc + 1)) : VJ L w X nL t r M1 M lv (.int (i32 y) :: .int (i32 x) :: st) pc := by
  intro H locs ls hP hS hl
  exact lv_irem G.1 G.2.1 hdg (fun q => h0 ((i32_eq hy ir_0).mp q)) (by rw [i32_rm]; exact k H locs ls hP hS hl)
theorem vj_ineg (G : Gc L w X own cc nL fr lo) {x : Int} (hdg : decode cc pc = .ok (.ineg, 1)) (k : VJ L w X nL t r M1 M lv (.int (i32 (w32 (-x))) :: st) (pc + 1)) : VJ L w X nL t r M1 M lv (.int (i32 x) :: st) pc := by
  intro H locs ls hP hS hl
  exact lv_ineg G.1 G.2.1 hdg (by rw [i32_neg]; exact k H locs ls hP hS hl)
theorem vj_ladd (G : Gc L w X own cc nL fr lo) {x y : Int} (hdg : decode cc pc = .ok (.ladd, 1)) (k : VJ L w X nL t r M1 M lv (.long (i64 (w64 (x + y))) :: st) (pc + 1)) : VJ L w X nL t r M1 M lv (.long (i64 y) :: .long (i64 x) :: st) pc := by
  intro H locs ls hP hS hl
  exact lv_ladd G.1 G.2.1 hdg (by rw [i64_add]; exact k H locs ls hP hS hl)
theorem vj_lsub (G : Gc L w X own cc nL fr lo) {x y : Int} (hdg : decode cc pc = .ok (.lsub, 1)) (k : VJ L w X nL t r M1 M lv (.long (i64 (w64 (x - y))) :: st) (pc + 1)) : VJ L w X nL t r M1 M lv (.long (i64 y) :: .long (i64 x) :: st) pc := by
  intro H locs ls hP hS hl
  exact lv_lsub G.1 G.2.1 hdg (by rw [i64_sub]; exact k H locs ls hP hS hl)
theorem vj_lmul (G : Gc L w X own cc nL fr lo) {x y : Int} (hdg : decode cc pc = .ok (.lmul, 1)) (k : VJ L w X nL t r M1 M lv (.long (i64 (w64 (x * y))) :: st) (pc + 1)) : VJ L w X nL t r M1 M lv (.long (i64 y) :: .long (i64 x) :: st) pc := by
  intro H locs ls hP hS hl
  exact lv_lmul G.1 G.2.1 hdg (by rw [i64_mul]; exact k H locs ls hP hS hl)
theorem vj_land (G : Gc L w X own cc nL fr lo) {x y : Int} (hdg : decode cc pc = .ok (.land, 1)) (k : VJ L w X nL t r M1 M lv (.long (i64 (lan x y)) :: st) (pc + 1)) : VJ L w X nL t r M1 M lv (.long (i64 y) :: .long (i64 x) :: st) pc := by
  intro H locs ls hP hS hl
  exact lv_land G.1 G.2.1 hdg (by rw [i64_an]; exact k H locs ls hP hS hl)
theorem vj_lor (G : Gc L w X own cc nL fr lo) {x y : Int} (hdg : decode cc pc = .ok (.lor, 1)) (k : VJ L w X nL t r M1 M lv (.long (i64 (lor x y)) :: st) (pc + 1)) : VJ L w X nL t r M1 M lv (.long (i64 y) :: .long (i64 x) :: st) pc := by
  intro H locs ls hP hS hl
  exact lv_lor G.1 G.2.1 hdg (by rw [i64_or]; exact k H locs ls hP hS hl)
theorem vj_lxor (G : Gc L w X own cc nL fr lo) {x y : Int} (hdg : decode cc pc = .ok (.lxor, 1)) (k : VJ L w X nL t r M1 M lv (.long (i64 (lxo x y)) :: st) (pc + 1)) : VJ L w X nL t r M1 M lv (.long (i64 y) :: .long (i64 x) :: st) pc := by
  intro H locs ls hP hS hl
  exact lv_lxor G.1 G.2.1 hdg (by rw [i64_xo]; exact k H locs ls hP hS hl)
theorem vj_ldiv (G : Gc L w X own cc nL fr lo) {x y : Int} (hdg : decode cc pc = .ok (.ldiv, 1)) (hy : in64 y) (h0 : y ≠ 0) (k : VJ L w X nL t r M1 M lv (.long (i64 (ldv x y)) :: st) (pc + 1)) : VJ L w X nL t r M1 M lv (.long (i64 y) :: .long (i64 x) :: st) pc := by
  intro H locs ls hP hS hl
  exact lv_ldiv G.1 G.2.1 hdg (fun q => h0 ((i64_eq hy (lr_i ir_0)).mp q)) (by rw [i64_dv]; exact k H locs ls hP hS hl)
theorem vj_lrem (G : Gc L w X own cc nL fr lo) {x y : Int} (hdg : decode cc pc = .ok (.lrem, 1)) (hy : in64 y) (h0 : y ≠ 0) (k : VJ L w X nL t r M1 M lv (.long (i64 (lrm x y)) :: st) (pc + 1)) : VJ L w X nL t r M1 M lv (.long (i64 y) :: .long (i64 x) :: st) pc := by
  intro H locs ls hP hS hl
  exact lv_lrem G.1 G.2.1 hdg (fun q => h0 ((i64_eq hy (lr_i ir_0)).mp q)) (by rw [i64_rm]; exact k H locs ls hP hS hl)
theorem vj_lneg (G : Gc L w X own cc nL fr lo) {x : Int} (hdg : decode cc pc = .ok (.lneg, 1)) (k : VJ L w X nL t r M1 M lv (.long (i64 (w64 (-x))) :: st) (pc + 1)) : VJ L w X nL t r M1 M lv (.long (i64 x) :: st) pc := by
  intro H locs ls hP hS hl
  exact lv_lneg G.1 G.2.1 hdg (by rw [i64_neg]; exact k H locs ls hP hS hl)
theorem vj_lshl (G : Gc L w X own cc nL fr lo) {x y : Int} (hdg : decode cc pc = .ok (.lshl, 1)) (k : VJ L w X nL t r M1 M lv (.long (i64 (lsh x y)) :: st) (pc + 1)) : VJ L w X nL t r M1 M lv (.int (i32 y) :: .long (i64 x) :: st) pc := by
  intro H locs ls hP hS hl
  exact lv_lshl G.1 G.2.1 hdg (i64_sh x y) (k H locs ls hP hS hl)
theorem vj_lshr (G : Gc L w X own cc nL fr lo) {x y : Int} (hdg : decode cc pc = .ok (.lshr, 1)) (k : VJ L w X nL t r M1 M lv (.long (i64 (lsr x y)) :: st) (pc + 1)) : VJ L w X nL t r M1 M lv (.int (i32 y) :: .long (i64 x) :: st) pc := by
  intro H locs ls hP hS hl
  exact lv_lshr G.1 G.2.1 hdg (i64_sr x y) (k H locs ls hP hS hl)
theorem vj_i2l (G : Gc L w X own cc nL fr lo) {x : Int} (hdg : decode cc pc = .ok (.i2l, 1)) (hx : inR x) (k : VJ L w X nL t r M1 M lv (.long (i64 x) :: st) (pc + 1)) : VJ L w X nL t r M1 M lv (.int (i32 x) :: st) pc := by
  intro H locs ls hP hS hl
  exact lv_i2l G.1 G.2.1 hdg (i32_l hx) (k H locs ls hP hS hl)
theorem vj_l2i (G : Gc L w X own cc nL fr lo) {x : Int} (hdg : decode cc pc = .ok (.l2i, 1)) (k : VJ L w X nL t r M1 M lv (.int (i32 (w32 x)) :: st) (pc + 1)) : VJ L w X nL t r M1 M lv (.long (i64 x) :: st) pc := by
  intro H locs ls hP hS hl
  exact lv_l2i G.1 G.2.1 hdg (i64_i x) (k H locs ls hP hS hl)
theorem vj_i2b (G : Gc L w X own cc nL fr lo) {x : Int} (hdg : decode cc pc = .ok (.i2b, 1)) (k : VJ L w X nL t r M1 M lv (.int (i32 (w8 x)) :: st) (pc + 1)) : VJ L w X nL t r M1 M lv (.int (i32 x) :: st) pc := by
  intro H locs ls hP hS hl
  exact lv_i2b G.1 G.2.1 hdg (i32_b x) (k H locs ls hP hS hl)
theorem vj_i2s (G : Gc L w X own cc nL fr lo) {x : Int} (hdg : decode cc pc = .ok (.i2s, 1)) (k : VJ L w X nL t r M1 M lv (.int (i32 (w16 x)) :: st) (pc + 1)) : VJ L w X nL t r M1 M lv (.int (i32 x) :: st) pc := by
  intro H locs ls hP hS hl
  exact lv_i2s G.1 G.2.1 hdg (i32_s x) (k H locs ls hP hS hl)
theorem vj_dup (G : Gc L w X own cc nL fr lo) {va : Value} (hdg : decode cc pc = .ok (.dup, 1)) (hva : va.category = 1) (k : VJ L w X nL t r M1 M lv (va :: va :: st) (pc + 1)) : VJ L w X nL t r M1 M lv (va :: st) pc := by
  intro H locs ls hP hS hl
  exact lv_dup G.1 G.2.1 hdg hva (k H locs ls hP hS hl)
theorem vj_pop (G : Gc L w X own cc nL fr lo) {va : Value} (hdg : decode cc pc = .ok (.pop, 1)) (hva : va.category = 1) (k : VJ L w X nL t r M1 M lv st (pc + 1)) : VJ L w X nL t r M1 M lv (va :: st) pc := by
  intro H locs ls hP hS hl
  exact lv_pop G.1 G.2.1 hdg hva (k H locs ls hP hS hl)
theorem vj_dup_x1 (G : Gc L w X own cc nL fr lo) {va vb : Value} (hdg : decode cc pc = .ok (.dup_x1, 1)) (hva : va.category = 1) (hvb : vb.category = 1) (k : VJ L w X nL t r M1 M lv (va :: vb :: va :: st) (pc + 1)) : VJ L w X nL t r M1 M lv (va :: vb :: st) pc := by
  intro H locs ls hP hS hl
  exact lv_dup_x1 G.1 G.2.1 hdg hva hvb (k H locs ls hP hS hl)
theorem vj_dup2_11 (G : Gc L w X own cc nL fr lo) {va vb : Value} (hdg : decode cc pc = .ok (.dup2, 1)) (hva : va.category = 1) (hvb : vb.category = 1) (k : VJ L w X nL t r M1 M lv (va :: vb :: va :: vb :: st) (pc + 1)) : VJ L w X nL t r M1 M lv (va :: vb :: st) pc := by
  intro H locs ls hP hS hl
  exact lv_dup2_11 G.1 G.2.1 hdg hva hvb (k H locs ls hP hS hl)
theorem vj_dup2_2 (G : Gc L w X own cc nL fr lo) {va : Value} (hdg : decode cc pc = .ok (.dup2, 1)) (hva : va.category = 2) (k : VJ L w X nL t r M1 M lv (va :: va :: st) (pc + 1)) : VJ L w X nL t r M1 M lv (va :: st) pc := by
  intro H locs ls hP hS hl
  exact lv_dup2_2 G.1 G.2.1 hdg hva (k H locs ls hP hS hl)
theorem vj_goto (G : Gc L w X own cc nL fr lo) {off : Int} {tgt : Nat} (hdg : decode cc pc = .ok (.goto off, 3)) (ht : (pc : Int) + off = (tgt : Int)) (k : VJ L w X nL t r M1 M lv st tgt) : VJ L w X nL t r M1 M lv st pc := by
  intro H locs ls hP hS hl
  exact lv_goto G.1 G.2.1 hdg ht (k H locs ls hP hS hl)
theorem vj_icmp_eq (G : Gc L w X own cc nL fr lo) {x y off : Int} {tgt : Nat} (hdg : decode cc pc = .ok (.if_icmp .eq off, 3)) (ht : (pc : Int) + off = (tgt : Int)) (hx : inR x) (hy : inR y) (kt : x = y → VJ L w X nL t r M1 M lv st tgt) (kf : ¬ (x = y) → VJ L w X nL t r M1 M lv st (pc + 3)) : VJ L w X nL t r M1 M lv (.int (i32 y) :: .int (i32 x) :: st) pc := by
  intro H locs ls hP hS hl
  exact lv_icmp_eq G.1 G.2.1 hdg ht (fun q => kt (by simpa only [i32_eq hx hy, i32_lt hx hy, i32_lt hy hx, i32_le hx hy, i32_le hy hx, ne_eq, Classical.not_not, ge_iff_le, gt_iff_lt] using q) H locs ls hP hS hl) (fun q => kf (by simpa only [i32_eq hx hy, i32_lt hx hy, i32_lt hy hx, i32_le hx hy, i32_le hy hx, ne_eq, Classical.not_not, ge_iff_le, gt_iff_lt] using q) H locs ls hP hS hl)
theorem vj_if_eq (G : Gc L w X own cc nL fr lo) {x off : Int} {tgt : Nat} (hdg : decode cc pc = .ok (.ifCond .eq off, 3)) (ht : (pc : Int) + off = (tgt : Int)) (hx : inR x) (kt : x = 0 → VJ L w X nL t r M1 M lv st tgt) (kf : ¬ (x = 0) → VJ L w X nL t r M1 M lv st (pc + 3)) : VJ L w X nL t r M1 M lv (.int (i32 x) :: st) pc := by
  intro H locs ls hP hS hl
  exact lv_if_eq G.1 G.2.1 hdg ht (fun q => kt (by simpa only [i32_0, i32_eq hx ir_0, i32_lt hx ir_0, i32_lt ir_0 hx, i32_le hx ir_0, i32_le ir_0 hx, ne_eq, Classical.not_not, ge_iff_le, gt_iff_lt] using q) H locs ls hP hS hl) (fun q => kf (by simpa only [i32_0, i32_eq hx ir_0, i32_lt hx ir_0, i32_lt ir_0 hx, i32_le hx ir_0, i32_le ir_0 hx, ne_eq, Classical.not_not, ge_iff_le, gt_iff_lt] using q) H locs ls hP hS hl)
theorem vj_lcmp_eq (G : Gc L w X own cc nL fr lo) {x y off : Int} {tgt : Nat} (hdg : decode cc pc = .ok (.lcmp, 1)) (hdg2 : decode cc (pc + 1) = .ok (.ifCond .eq off, 3)) (ht : ((pc + 1 : Nat) : Int) + off = (tgt : Int)) (hx : in64 x) (hy : in64 y) (kt : x = y → VJ L w X nL t r M1 M lv st tgt) (kf : ¬ (x = y) → VJ L w X nL t r M1 M lv st (pc + 4)) : VJ L w X nL t r M1 M lv (.long (i64 y) :: .long (i64 x) :: st) pc := by
  intro H locs ls hP hS hl
  have e : (lg_cmp (i64 x) (i64 y)) = i32 (if x < y then -1 else if y < x then 1 else 0) := by
    unfold lg_cmp
    by_cases h1 : x < y
    · have h2 : ¬ y < x := by omega
      have h3 : ¬ x = y := by omega
      simp only [i64_lt hx hy, i64_lt hy hx, i64_eq hx hy, i64_eq hy hx, gt_iff_lt, h1, h2, h3, if_true, if_false]; try rfl
    · by_cases h2 : y < x
      · simp only [i64_lt hx hy, i64_lt hy hx, i64_eq hx hy, i64_eq hy hx, gt_iff_lt, h1, h2, if_true, if_false]; try rfl
      · have h3 : x = y := by omega
        subst h3
        simp only [i64_lt hx hy, i64_eq hx hx, gt_iff_lt, h1, if_true, if_false]; try rfl
  have hr : inR (if x < y then -1 else if y < x then 1 else 0) := by (repeat (first | split | (unfold inR; omega)))
  refine W.lcmp G.1 G.2.1 hdg ?_
  rw [e]
  refine vj_if_eq G (x := if x < y then -1 else if y < x then 1 else 0) hdg2 ht hr (fun q => kt ?_) (fun q => kf ?_) H locs ls hP hS hl
  · revert q; (repeat (first | split | omega))
  · revert q; (repeat (first | split | omega))
theorem vj_icmp_ne (G : Gc L w X own cc nL fr lo) {x y off : Int} {tgt : Nat} (hdg : decode cc pc = .ok (.if_icmp .ne off, 3)) (ht : (pc : Int) + off = (tgt : Int)) (hx : inR x) (hy : inR y) (kt : x ≠ y → VJ L w X nL t r M1 M lv st tgt) (kf : ¬ (x ≠ y) → VJ L w X nL t r M1 M lv st (pc + 3)) : VJ L w X nL t r M1 M lv (.int (i32 y) :: .int (i32 x) :: st) pc := by
  intro H locs ls hP hS hl
  exact lv_icmp_ne G.1 G.2.1 hdg ht (fun q => kt (by simpa only [i32_eq hx hy, i32_lt hx hy, i32_lt hy hx, i32_le hx hy, i32_le hy hx, ne_eq, Classical.not_not, ge_iff_le, gt_iff_lt] using q) H locs ls hP hS hl) (fun q => kf (by simpa only [i32_eq hx hy, i32_lt hx hy, i32_lt hy hx, i32_le hx hy, i32_le hy hx, ne_eq, Classical.not_not, ge_iff_le, gt_iff_lt] using q) H locs ls hP hS hl)
theorem vj_if_ne (G : Gc L w X own cc nL fr lo) {x off : Int} {tgt : Nat} (hdg : decode cc pc = .ok (.ifCond .ne off, 3)) (ht : (pc : Int) + off = (tgt : Int)) (hx : inR x) (kt : x ≠ 0 → VJ L w X nL t r M1 M lv st tgt) (kf : ¬ (x ≠ 0) → VJ L w X nL t r M1 M lv st (pc + 3)) : VJ L w X nL t r M1 M lv (.int (i32 x) :: st) pc := by
  intro H locs ls hP hS hl
  exact lv_if_ne G.1 G.2.1 hdg ht (fun q => kt (by simpa only [i32_0, i32_eq hx ir_0, i32_lt hx ir_0, i32_lt ir_0 hx, i32_le hx ir_0, i32_le ir_0 hx, ne_eq, Classical.not_not, ge_iff_le, gt_iff_lt] using q) H locs ls hP hS hl) (fun q => kf (by simpa only [i32_0, i32_eq hx ir_0, i32_lt hx ir_0, i32_lt ir_0 hx, i32_le hx ir_0, i32_le ir_0 hx, ne_eq, Classical.not_not, ge_iff_le, gt_iff_lt] using q) H locs ls hP hS hl)
theorem vj_lcmp_ne (G : Gc L w X own cc nL fr lo) {x y off : Int} {tgt : Nat} (hdg : decode cc pc = .ok (.lcmp, 1)) (hdg2 : decode cc (pc + 1) = .ok (.ifCond .ne off, 3)) (ht : ((pc + 1 : Nat) : Int) + off = (tgt : Int)) (hx : in64 x) (hy : in64 y) (kt : x ≠ y → VJ L w X nL t r M1 M lv st tgt) (kf : ¬ (x ≠ y) → VJ L w X nL t r M1 M lv st (pc + 4)) : VJ L w X nL t r M1 M lv (.long (i64 y) :: .long (i64 x) :: st) pc := by
  intro H locs ls hP hS hl
  have e : (lg_cmp (i64 x) (i64 y)) = i32 (if x < y then -1 else if y < x then 1 else 0) := by
    unfold lg_cmp
    by_cases h1 : x < y
    · have h2 : ¬ y < x := by omega
      have h3 : ¬ x = y := by omega
      simp only [i64_lt hx hy, i64_lt hy hx, i64_eq hx hy, i64_eq hy hx, gt_iff_lt, h1, h2, h3, if_true, if_false]; try rfl
    · by_cases h2 : y < x
      · simp only [i64_lt hx hy, i64_lt hy hx, i64_eq hx hy, i64_eq hy hx, gt_iff_lt, h1, h2, if_true, if_false]; try rfl
      · have h3 : x = y := by omega
        subst h3
        simp only [i64_lt hx hy, i64_eq hx hx, gt_iff_lt, h1, if_true, if_false]; try rfl
  have hr : inR (if x < y then -1 else if y < x then 1 else 0) := by (repeat (first | split | (unfold inR; omega)))
  refine W.lcmp G.1 G.2.1 hdg ?_
  rw [e]
  refine vj_if_ne G (x := if x < y then -1 else if y < x then 1 else 0) hdg2 ht hr (fun q => kt ?_) (fun q => kf ?_) H locs ls hP hS hl
  · revert q; (repeat (first | split | omega))
  · revert q; (repeat (first | split | omega))
theorem vj_icmp_lt (G : Gc L w X own cc nL fr lo) {x y off : Int} {tgt : Nat} (hdg : decode cc pc = .ok (.if_icmp .lt off, 3)) (ht : (pc : Int) + off = (tgt : Int)) (hx : inR x) (hy : inR y) (kt : x < y → VJ L w X nL t r M1 M lv st tgt) (kf : ¬ (x < y) → VJ L w X nL t r M1 M lv st (pc + 3)) : VJ L w X nL t r M1 M lv (.int (i32 y) :: .int (i32 x) :: st) pc := by
  intro H locs ls hP hS hl
  exact lv_icmp_lt G.1 G.2.1 hdg ht (fun q => kt (by simpa only [i32_eq hx hy, i32_lt hx hy, i32_lt hy hx, i32_le hx hy, i32_le hy hx, ne_eq, Classical.not_not, ge_iff_le, gt_iff_lt] using q) H locs ls hP hS hl) (fun q => kf (by simpa only [i32_eq hx hy, i32_lt hx hy, i32_lt hy hx, i32_le hx hy, i32_le hy hx, ne_eq, Classical.not_not, ge_iff_le, gt_iff_lt] using q) H locs ls hP hS hl)
theorem vj_if_lt (G : Gc L w X own cc nL fr lo) {x off : Int} {tgt : Nat} (hdg : decode cc pc = .ok (.ifCond .lt off, 3)) (ht : (pc : Int) + off = (tgt : Int)) (hx : inR x) (kt : x < 0 → VJ L w X nL t r M1 M lv st tgt) (kf : ¬ (x < 0) → VJ L w X nL t r M1 M lv st (pc + 3)) : VJ L w X nL t r M1 M lv (.int (i32 x) :: st) pc := by
  intro H locs ls hP hS hl
  exact lv_if_lt G.1 G.2.1 hdg ht (fun q => kt (by simpa only [i32_0, i32_eq hx ir_0, i32_lt hx ir_0, i32_lt ir_0 hx, i32_le hx ir_0, i32_le ir_0 hx, ne_eq, Classical.not_not, ge_iff_le, gt_iff_lt] using q) H locs ls hP hS hl) (fun q => kf (by simpa only [i32_0, i32_eq hx ir_0, i32_lt hx ir_0, i32_lt ir_0 hx, i32_le hx ir_0, i32_le ir_0 hx, ne_eq, Classical.not_not, ge_iff_le, gt_iff_lt] using q) H locs ls hP hS hl)
theorem vj_lcmp_lt (G : Gc L w X own cc nL fr lo) {x y off : Int} {tgt : Nat} (hdg : decode cc pc = .ok (.lcmp, 1)) (hdg2 : decode cc (pc + 1) = .ok (.ifCond .lt off, 3)) (ht : ((pc + 1 : Nat) : Int) + off = (tgt : Int)) (hx : in64 x) (hy : in64 y) (kt : x < y → VJ L w X nL t r M1 M lv st tgt) (kf : ¬ (x < y) → VJ L w X nL t r M1 M lv st (pc + 4)) : VJ L w X nL t r M1 M lv (.long (i64 y) :: .long (i64 x) :: st) pc := by
  intro H locs ls hP hS hl
  have e : (lg_cmp (i64 x) (i64 y)) = i32 (if x < y then -1 else if y < x then 1 else 0) := by
    unfold lg_cmp
    by_cases h1 : x < y
    · have h2 : ¬ y < x := by omega
      have h3 : ¬ x = y := by omega
      simp only [i64_lt hx hy, i64_lt hy hx, i64_eq hx hy, i64_eq hy hx, gt_iff_lt, h1, h2, h3, if_true, if_false]; try rfl
    · by_cases h2 : y < x
      · simp only [i64_lt hx hy, i64_lt hy hx, i64_eq hx hy, i64_eq hy hx, gt_iff_lt, h1, h2, if_true, if_false]; try rfl
      · have h3 : x = y := by omega
        subst h3
        simp only [i64_lt hx hy, i64_eq hx hx, gt_iff_lt, h1, if_true, if_false]; try rfl
  have hr : inR (if x < y then -1 else if y < x then 1 else 0) := by (repeat (first | split | (unfold inR; omega)))
  refine W.lcmp G.1 G.2.1 hdg ?_
  rw [e]
  refine vj_if_lt G (x := if x < y then -1 else if y < x then 1 else 0) hdg2 ht hr (fun q => kt ?_) (fun q => kf ?_) H locs ls hP hS hl
  · revert q; (repeat (first | split | omega))
  · revert q; (repeat (first | split | omega))
theorem vj_icmp_ge (G : Gc L w X own cc nL fr lo) {x y off : Int} {tgt : Nat} (hdg : decode cc pc = .ok (.if_icmp .ge off, 3)) (ht : (pc : Int) + off = (tgt : Int)) (hx : inR x) (hy : inR y) (kt : y ≤ x → VJ L w X nL t r M1 M lv st tgt) (kf : ¬ (y ≤ x) → VJ L w X nL t r M1 M lv st (pc + 3)) : VJ L w X nL t r M1 M lv (.int (i32 y) :: .int (i32 x) :: st) pc := by
  intro H locs ls hP hS hl
  exact lv_icmp_ge G.1 G.2.1 hdg ht (fun q => kt (by simpa only [i32_eq hx hy, i32_lt hx hy, i32_lt hy hx, i32_le hx hy, i32_le hy hx, ne_eq, Classical.not_not, ge_iff_le, gt_iff_lt] using q) H locs ls hP hS hl) (fun q => kf (by simpa only [i32_eq hx hy, i32_lt hx hy, i32_lt hy hx, i32_le hx hy, i32_le hy hx, ne_eq, Classical.not_not, ge_iff_le, gt_iff_lt] using q) H locs ls hP hS hl)
theorem vj_if_ge (G : Gc L w X own cc nL fr lo) {x off : Int} {tgt : Nat} (hdg : decode cc pc = .ok (.ifCond .ge off, 3)) (ht : (pc : Int) + off = (tgt : Int)) (hx : inR x) (kt : 0 ≤ x → VJ L w X nL t r M1 M lv st tgt) (kf : ¬ (0 ≤ x) → VJ L w X nL t r M1 M lv st (pc + 3)) : VJ L w X nL t r M1 M lv (.int (i32 x) :: st) pc := by
  intro H locs ls hP hS hl
  exact lv_if_ge G.1 G.2.1 hdg ht (fun q => kt (by simpa only [i32_0, i32_eq hx ir_0, i32_lt hx ir_0, i32_lt ir_0 hx, i32_le hx ir_0, i32_le ir_0 hx, ne_eq, Classical.not_not, ge_iff_le, gt_iff_lt] using q) H locs ls hP hS hl) (fun q => kf (by simpa only [i32_0, i32_eq hx ir_0, i32_lt hx ir_0, i32_lt ir_0 hx, i32_le hx ir_0, i32_le ir_0 hx, ne_eq, Classical.not_not, ge_iff_le, gt_iff_lt] using q) H locs ls hP hS hl)
theorem vj_lcmp_ge (G : Gc L w X own cc nL fr lo) {x y off : Int} {tgt : Nat} (hdg : decode cc pc = .ok (.lcmp, 1)) (hdg2 : decode cc (pc + 1) = .ok (.ifCond .ge off, 3)) (ht : ((pc + 1 : Nat) : Int) + off = (tgt : Int)) (hx : in64 x) (hy : in64 y) (kt : y ≤ x → VJ L w X nL t r M1 M lv st tgt) (kf : ¬ (y ≤ x) → VJ L w X nL t r M1 M lv st (pc + 4)) : VJ L w X nL t r M1 M lv (.long (i64 y) :: .long (i64 x) :: st) pc := by
  intro H locs ls hP hS hl
  have e : (lg_cmp (i64 x) (i64 y)) = i32 (if x < y then -1 else if y < x then 1 else 0) := by
    unfold lg_cmp
    by_cases h1 : x < y
    · have h2 : ¬ y < x := by omega
      have h3 : ¬ x = y := by omega
      simp only [i64_lt hx hy, i64_lt hy hx, i64_eq hx hy, i64_eq hy hx, gt_iff_lt, h1, h2, h3, if_true, if_false]; try rfl
    · by_cases h2 : y < x
      · simp only [i64_lt hx hy, i64_lt hy hx, i64_eq hx hy, i64_eq hy hx, gt_iff_lt, h1, h2, if_true, if_false]; try rfl
      · have h3 : x = y := by omega
        subst h3
        simp only [i64_lt hx hy, i64_eq hx hx, gt_iff_lt, h1, if_true, if_false]; try rfl
  have hr : inR (if x < y then -1 else if y < x then 1 else 0) := by (repeat (first | split | (unfold inR; omega)))
  refine W.lcmp G.1 G.2.1 hdg ?_
  rw [e]
  refine vj_if_ge G (x := if x < y then -1 else if y < x then 1 else 0) hdg2 ht hr (fun q => kt ?_) (fun q => kf ?_) H locs ls hP hS hl
  · revert q; (repeat (first | split | omega))
  · revert q; (repeat (first | split | omega))
theorem vj_icmp_gt (G : Gc L w X own cc nL fr lo) {x y off : Int} {tgt : Nat} (hdg : decode cc pc = .ok (.if_icmp .gt off, 3)) (ht : (pc : Int) + off = (tgt : Int)) (hx : inR x) (hy : inR y) (kt : y < x → VJ L w X nL t r M1 M lv st tgt) (kf : ¬ (y < x) → VJ L w X nL t r M1 M lv st (pc + 3)) : VJ L w X nL t r M1 M lv (.int (i32 y) :: .int (i32 x) :: st) pc := by
  intro H locs ls hP hS hl
  exact lv_icmp_gt G.1 G.2.1 hdg ht (fun q => kt (by simpa only [i32_eq hx hy, i32_lt hx hy, i32_lt hy hx, i32_le hx hy, i32_le hy hx, ne_eq, Classical.not_not, ge_iff_le, gt_iff_lt] using q) H locs ls hP hS hl) (fun q => kf (by simpa only [i32_eq hx hy, i32_lt hx hy, i32_lt hy hx, i32_le hx hy, i32_le hy hx, ne_eq, Classical.not_not, ge_iff_le, gt_iff_lt] using q) H locs ls hP hS hl)
theorem vj_if_gt (G : Gc L w X own cc nL fr lo) {x off : Int} {tgt : Nat} (hdg : decode cc pc = .ok (.ifCond .gt off, 3)) (ht : (pc : Int) + off = (tgt : Int)) (hx : inR x) (kt : 0 < x → VJ L w X nL t r M1 M lv st tgt) (kf : ¬ (0 < x) → VJ L w X nL t r M1 M lv st (pc + 3)) : VJ L w X nL t r M1 M lv (.int (i32 x) :: st) pc := by
  intro H locs ls hP hS hl
  exact lv_if_gt G.1 G.2.1 hdg ht (fun q => kt (by simpa only [i32_0, i32_eq hx ir_0, i32_lt hx ir_0, i32_lt ir_0 hx, i32_le hx ir_0, i32_le ir_0 hx, ne_eq, Classical.not_not, ge_iff_le, gt_iff_lt] using q) H locs ls hP hS hl) (fun q => kf (by simpa only [i32_0, i32_eq hx ir_0, i32_lt hx ir_0, i32_lt ir_0 hx, i32_le hx ir_0, i32_le ir_0 hx, ne_eq, Classical.not_not, ge_iff_le, gt_iff_lt] using q) H locs ls hP hS hl)
theorem vj_lcmp_gt (G : Gc L w X own cc nL fr lo) {x y off : Int} {tgt : Nat} (hdg : decode cc pc = .ok (.lcmp, 1)) (hdg2 : decode cc (pc + 1) = .ok (.ifCond .gt off, 3)) (ht : ((pc + 1 : Nat) : Int) + off = (tgt : Int)) (hx : in64 x) (hy : in64 y) (kt : y < x → VJ L w X nL t r M1 M lv st tgt) (kf : ¬ (y < x) → VJ L w X nL t r M1 M lv st (pc + 4)) : VJ L w X nL t r M1 M lv (.long (i64 y) :: .long (i64 x) :: st) pc := by
  intro H locs ls hP hS hl
  have e : (lg_cmp (i64 x) (i64 y)) = i32 (if x < y then -1 else if y < x then 1 else 0) := by
    unfold lg_cmp
    by_cases h1 : x < y
    · have h2 : ¬ y < x := by omega
      have h3 : ¬ x = y := by omega
      simp only [i64_lt hx hy, i64_lt hy hx, i64_eq hx hy, i64_eq hy hx, gt_iff_lt, h1, h2, h3, if_true, if_false]; try rfl
    · by_cases h2 : y < x
      · simp only [i64_lt hx hy, i64_lt hy hx, i64_eq hx hy, i64_eq hy hx, gt_iff_lt, h1, h2, if_true, if_false]; try rfl
      · have h3 : x = y := by omega
        subst h3
        simp only [i64_lt hx hy, i64_eq hx hx, gt_iff_lt, h1, if_true, if_false]; try rfl
  have hr : inR (if x < y then -1 else if y < x then 1 else 0) := by (repeat (first | split | (unfold inR; omega)))
  refine W.lcmp G.1 G.2.1 hdg ?_
  rw [e]
  refine vj_if_gt G (x := if x < y then -1 else if y < x then 1 else 0) hdg2 ht hr (fun q => kt ?_) (fun q => kf ?_) H locs ls hP hS hl
  · revert q; (repeat (first | split | omega))
  · revert q; (repeat (first | split | omega))
theorem vj_icmp_le (G : Gc L w X own cc nL fr lo) {x y off : Int} {tgt : Nat} (hdg : decode cc pc = .ok (.if_icmp .le off, 3)) (ht : (pc : Int) + off = (tgt : Int)) (hx : inR x) (hy : inR y) (kt : x ≤ y → VJ L w X nL t r M1 M lv st tgt) (kf : ¬ (x ≤ y) → VJ L w X nL t r M1 M lv st (pc + 3)) : VJ L w X nL t r M1 M lv (.int (i32 y) :: .int (i32 x) :: st) pc := by
  intro H locs ls hP hS hl
  exact lv_icmp_le G.1 G.2.1 hdg ht (fun q => kt (by simpa only [i32_eq hx hy, i32_lt hx hy, i32_lt hy hx, i32_le hx hy, i32_le hy hx, ne_eq, Classical.not_not, ge_iff_le, gt_iff_lt] using q) H locs ls hP hS hl) (fun q => kf (by simpa only [i32_eq hx hy, i32_lt hx hy, i32_lt hy hx, i32_le hx hy, i32_le hy hx, ne_eq, Classical.not_not, ge_iff_le, gt_iff_lt] using q) H locs ls hP hS hl)
theorem vj_if_le (G : Gc L w X own cc nL fr lo) {x off : Int} {tgt : Nat} (hdg : decode cc pc = .ok (.ifCond .le off, 3)) (ht : (pc : Int) + off = (tgt : Int)) (hx : inR x) (kt : x ≤ 0 → VJ L w X nL t r M1 M lv st tgt) (kf : ¬ (x ≤ 0) → VJ L w X nL t r M1 M lv st (pc + 3)) : VJ L w X nL t r M1 M lv (.int (i32 x) :: st) pc := by
  intro H locs ls hP hS hl
  exact lv_if_le G.1 G.2.1 hdg ht (fun q => kt (by simpa only [i32_0, i32_eq hx ir_0, i32_lt hx ir_0, i32_lt ir_0 hx, i32_le hx ir_0, i32_le ir_0 hx, ne_eq, Classical.not_not, ge_iff_le, gt_iff_lt] using q) H locs ls hP hS hl) (fun q => kf (by simpa only [i32_0, i32_eq hx ir_0, i32_lt hx ir_0, i32_lt ir_0 hx, i32_le hx ir_0, i32_le ir_0 hx, ne_eq, Classical.not_not, ge_iff_le, gt_iff_lt] using q) H locs ls hP hS hl)
theorem vj_lcmp_le (G : Gc L w X own cc nL fr lo) {x y off : Int} {tgt : Nat} (hdg : decode cc pc = .ok (.lcmp, 1)) (hdg2 : decode cc (pc + 1) = .ok (.ifCond .le off, 3)) (ht : ((pc + 1 : Nat) : Int) + off = (tgt : Int)) (hx : in64 x) (hy : in64 y) (kt : x ≤ y → VJ L w X nL t r M1 M lv st tgt) (kf : ¬ (x ≤ y) → VJ L w X nL t r M1 M lv st (pc + 4)) : VJ L w X nL t r M1 M lv (.long (i64 y) :: .long (i64 x) :: st) pc := by
  intro H locs ls hP hS hl
  have e : (lg_cmp (i64 x) (i64 y)) = i32 (if x < y then -1 else if y < x then 1 else 0) := by
    unfold lg_cmp
    by_cases h1 : x < y
    · have h2 : ¬ y < x := by omega
      have h3 : ¬ x = y := by omega
      simp only [i64_lt hx hy, i64_lt hy hx, i64_eq hx hy, i64_eq hy hx, gt_iff_lt, h1, h2, h3, if_true, if_false]; try rfl
    · by_cases h2 : y < x
      · simp only [i64_lt hx hy, i64_lt hy hx, i64_eq hx hy, i64_eq hy hx, gt_iff_lt, h1, h2, if_true, if_false]; try rfl
      · have h3 : x = y := by omega
        subst h3
        simp only [i64_lt hx hy, i64_eq hx hx, gt_iff_lt, h1, if_true, if_false]; try rfl
  have hr : inR (if x < y then -1 else if y < x then 1 else 0) := by (repeat (first | split | (unfold inR; omega)))
  refine W.lcmp G.1 G.2.1 hdg ?_
  rw [e]
  refine vj_if_le G (x := if x < y then -1 else if y < x then 1 else 0) hdg2 ht hr (fun q => kt ?_) (fun q => kf ?_) H locs ls hP hS hl
  · revert q; (repeat (first | split | omega))
  · revert q; (repeat (first | split | omega))
end ROWS
