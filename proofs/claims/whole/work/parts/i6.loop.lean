/-! Written by wip/whole/gen/lawloop.py. The law's loop. -/
theorem lj_sub {L2 : Lay} {X : Cx} {w wR : Wd} {M N : Mm} {lv lv2 : List (Nat × Value)} {st : List Value} {pc : Nat} (ks : List Nat) (h : lv_pick lv ks = lv2) (k : LJ L2 X w wR M N lv2 st pc) : LJ L2 X w wR M N lv st pc := fun H locs ls hP hR hS hl => k H locs ls hP hR hS (lv_sub hl ks h)
set_option maxHeartbeats 8000000 in
set_option maxRecDepth 100000 in
theorem law_loop {X : Cx} {wR : Wd} {b z : Nat} {xv : Nat → Int32} (B : BL X) (R : RI X wR) (S : LwS X b z xv) (n : Nat) (hn : 70000 ≤ n) (hL : z ≤ 3072) (hend : ∀ (a c : Nat) (w : Wd) (M N : Mm) (lv : List (Nat × Value)), a ≤ 600000 → c ≤ 7302250 → LIw X w wR → LJ LR (xInc X a c) w wR M N lv [] 1568) :
    ∀ (f i a c : Nat) (w : Wd) (M N : Mm), z ≤ i + f → a ≤ 1000 + i → c ≤ 20000 + 3 * i → i ≤ 3078 → LIw X w wR → J M N → LJ LR (xInc X a c) w wR M N (lvL b (wa w 0) (wa wR 0) i) [] 18 := by
  intro f
  induction f with
  | zero =>
    intro i a c w M N hz ha hc hi I hJ
    have G := gl_C B I (a := a) (b := c) ⟨by omega, by omega⟩
    refine lj_iload_n G (p9 := 3) d_law_18 rfl rfl ?_
    refine lj_aload_n G (p9 := 0) d_law_19 rfl rfl ?_
    refine lj_slen G S d_law_20 ?_
    refine lj_bipush G (v := 6) d_law_21 rfl ?_
    refine lj_isub G d_law_23 ?_
    have e : w32 ((z : Int) - 6) = (z : Int) - 6 := w32_s (by omega) (by omega)
    rw [e]
    refine lj_icmp_gt G (tgt := 1568) d_law_24 (by decide) ⟨by omega, by omega⟩ ⟨by omega, by omega⟩ (fun _ => hend _ _ _ _ _ _ (by omega) (by omega) I) (fun c1 => absurd (by omega) c1)
  | succ f ih =>
    intro i a c w M N hz ha hc hi I hJ
    have G := gl_C B I (a := a) (b := c) ⟨by omega, by omega⟩
    refine lj_iload_n G (p9 := 3) d_law_18 rfl rfl ?_
    refine lj_aload_n G (p9 := 0) d_law_19 rfl rfl ?_
    refine lj_slen G S d_law_20 ?_
    refine lj_bipush G (v := 6) d_law_21 rfl ?_
    refine lj_isub G d_law_23 ?_
    have e : w32 ((z : Int) - 6) = (z : Int) - 6 := w32_s (by omega) (by omega)
    rw [e]
    refine lj_icmp_gt G (tgt := 1568) d_law_24 (by decide) ⟨by omega, by omega⟩ ⟨by omega, by omega⟩ (fun _ => hend _ _ _ _ _ _ (by omega) (by omega) I) (fun c1 => ?_)
    have hi6 : i + 6 ≤ z := by omega
    have back : ∀ (a2 c2 : Nat) (w2 : Wd) (M9 N9 : Mm), a2 ≤ 1001 + i → c2 ≤ 20003 + 3 * i → LIw X w2 wR → J M9 N9 → LJ LR (xInc X a2 c2) w2 wR M9 N9 (lvL b (wa w2 0) (wa wR 0) i) [] 1562 := by
      intro a2 c2 w2 M9 N9 ha2 hc2 I2 hJ2
      have G2 := gl_C B I2 (a := a2) (b := c2) ⟨by omega, by omega⟩
      have e2 : w32 ((i : Int) + 6) = ((i + 6 : Nat) : Int) := by rw [w32_s (by omega) (by omega)]; omega
      refine lj_iinc G2 (p9 := 3) (x := (i : Int)) (lv2 := [(3, .int (i32 (w32 ((i : Int) + 6)))), (0, .ref b), (1, .ref (wa w2 0)), (2, .ref (wa wR 0))]) d_law_1562 rfl (by decide) rfl ?_
      rw [e2]
      refine lj_sub [1, 2, 3, 0] rfl ?_
      refine lj_goto G2 (tgt := 18) d_law_1565 (by decide) ?_
      exact ih (i + 6) a2 c2 w2 M9 N9 (by omega) (by omega) (by omega) (by omega) I2 hJ2
    refine lj_aload_n G (p9 := 0) d_law_27 rfl rfl ?_
    refine lj_iload_n G (p9 := 3) d_law_28 rfl rfl ?_
    refine lj_sld G S hL (by omega) d_law_29 ?_
    refine lj_bipush G (v := 63) d_law_30 rfl ?_
    refine lj_iand G d_law_32 ?_
    have hv := ir_an (xv i).toInt 63
    generalize ian (xv i).toInt 63 = v at hv ⊢
    have hb : ∀ (M9 N9 : Mm), J M9 N9 → LJ LR (xInc X a c) w wR M9 N9 (lvL b (wa w 0) (wa wR 0) i) [] 1562 := fun M9 N9 h => back a c w M9 N9 (by omega) (by omega) I h
    by_cases hin : 0 ≤ v ∧ v ≤ 36
    · have hc37 : v = 0 ∨ v = 1 ∨ v = 2 ∨ v = 3 ∨ v = 4 ∨ v = 5 ∨ v = 6 ∨ v = 7 ∨ v = 8 ∨ v = 9 ∨ v = 10 ∨ v = 11 ∨ v = 12 ∨ v = 13 ∨ v = 14 ∨ v = 15 ∨ v = 16 ∨ v = 17 ∨ v = 18 ∨ v = 19 ∨ v = 20 ∨ v = 21 ∨ v = 22 ∨ v = 23 ∨ v = 24 ∨ v = 25 ∨ v = 26 ∨ v = 27 ∨ v = 28 ∨ v = 29 ∨ v = 30 ∨ v = 31 ∨ v = 32 ∨ v = 33 ∨ v = 34 ∨ v = 35 ∨ v = 36 := by omega
      rcases hc37 with hk | hk | hk | hk | hk | hk | hk | hk | hk | hk | hk | hk | hk | hk | hk | hk | hk | hk | hk | hk | hk | hk | hk | hk | hk | hk | hk | hk | hk | hk | hk | hk | hk | hk | hk | hk | hk
      · refine lj_swIn G (tgt := 196) (y := 0) d_law_33 hv hk (by decide) (by decide) rfl (by decide) ?_
        exact lc_pass B I R S n hn hL hi6 ⟨by omega, by omega⟩ hJ hb
      · refine lj_swIn G (tgt := 219) (y := 1) d_law_33 hv hk (by decide) (by decide) rfl (by decide) ?_
        exact lc_holder B I R S n hn hL hi6 ⟨by omega, by omega⟩ ⟨by omega, by omega⟩ hJ (fun w2 M9 N9 I2 _ h => back (a + 1) (c + 3) w2 M9 N9 (by omega) (by omega) I2 h)
      · refine lj_swIn G (tgt := 252) (y := 2) d_law_33 hv hk (by decide) (by decide) rfl (by decide) ?_
        exact lc_share B I R S n hn hL hi6 ⟨by omega, by omega⟩ hJ hb
      · refine lj_swIn G (tgt := 305) (y := 3) d_law_33 hv hk (by decide) (by decide) rfl (by decide) ?_
        exact lc_price B I R S n hn hL hi6 ⟨by omega, by omega⟩ hJ hb
      · refine lj_swIn G (tgt := 338) (y := 4) d_law_33 hv hk (by decide) (by decide) rfl (by decide) ?_
        exact lc_sale B I R S n hn hL hi6 ⟨by omega, by omega⟩ hJ hb
      · refine lj_swIn G (tgt := 371) (y := 5) d_law_33 hv hk (by decide) (by decide) rfl (by decide) ?_
        exact lc_of B I R S n hn hL hi6 ⟨by omega, by omega⟩ hJ hb
      · refine lj_swIn G (tgt := 404) (y := 6) d_law_33 hv hk (by decide) (by decide) rfl (by decide) ?_
        exact lc_held B I R S n hn hL hi6 ⟨by omega, by omega⟩ hJ hb
      · refine lj_swIn G (tgt := 447) (y := 7) d_law_33 hv hk (by decide) (by decide) rfl (by decide) ?_
        exact lc_feed B I R S n hn hL hi6 ⟨by omega, by omega⟩ hJ hb
      · refine lj_swIn G (tgt := 480) (y := 8) d_law_33 hv hk (by decide) (by decide) rfl (by decide) ?_
        exact lc_charter B I R S n hn hL hi6 ⟨by omega, by omega⟩ hJ hb
      · refine lj_swIn G (tgt := 513) (y := 9) d_law_33 hv hk (by decide) (by decide) rfl (by decide) ?_
        exact lc_force B I R S n hn hL hi6 ⟨by omega, by omega⟩ hJ hb
      · refine lj_swIn G (tgt := 566) (y := 10) d_law_33 hv hk (by decide) (by decide) rfl (by decide) ?_
        exact lc_why B I R S n hn hL hi6 ⟨by omega, by omega⟩ hJ hb
      · refine lj_swIn G (tgt := 609) (y := 11) d_law_33 hv hk (by decide) (by decide) rfl (by decide) ?_
        exact lc_votes B I R S n hn hL hi6 ⟨by omega, by omega⟩ hJ hb
      · refine lj_swIn G (tgt := 652) (y := 12) d_law_33 hv hk (by decide) (by decide) rfl (by decide) ?_
        exact lc_carry B I R S n hn hL hi6 ⟨by omega, by omega⟩ hJ hb
      · refine lj_swIn G (tgt := 695) (y := 13) d_law_33 hv hk (by decide) (by decide) rfl (by decide) ?_
        exact lc_ruler B I R S n hn hL hi6 ⟨by omega, by omega⟩ hJ hb
      · refine lj_swIn G (tgt := 728) (y := 14) d_law_33 hv hk (by decide) (by decide) rfl (by decide) ?_
        exact lc_step B I R S n hn hL hi6 ⟨by omega, by omega⟩ hJ hb
      · refine lj_swIn G (tgt := 761) (y := 15) d_law_33 hv hk (by decide) (by decide) rfl (by decide) ?_
        exact lc_all B I R S n hn hL hi6 ⟨by omega, by omega⟩ hJ hb
      · refine lj_swIn G (tgt := 804) (y := 16) d_law_33 hv hk (by decide) (by decide) rfl (by decide) ?_
        exact lc_proof B I R S n hn hL hi6 ⟨by omega, by omega⟩ hJ hb
      · refine lj_swIn G (tgt := 847) (y := 17) d_law_33 hv hk (by decide) (by decide) rfl (by decide) ?_
        exact lc_worth B I R S n hn hL hi6 ⟨by omega, by omega⟩ hJ hb
      · refine lj_swIn G (tgt := 891) (y := 18) d_law_33 hv hk (by decide) (by decide) rfl (by decide) ?_
        exact lc_hollow B I R S n hn hL hi6 ⟨by omega, by omega⟩ hJ hb
      · refine lj_swIn G (tgt := 914) (y := 19) d_law_33 hv hk (by decide) (by decide) rfl (by decide) ?_
        exact lc_pivot B I R S n hn hL hi6 ⟨by omega, by omega⟩ hJ hb
      · refine lj_swIn G (tgt := 947) (y := 20) d_law_33 hv hk (by decide) (by decide) rfl (by decide) ?_
        exact lc_buy B I R S n hn hL hi6 ⟨by omega, by omega⟩ hJ hb
      · refine lj_swIn G (tgt := 991) (y := 21) d_law_33 hv hk (by decide) (by decide) rfl (by decide) ?_
        exact lc_sold B I R S n hn hL hi6 ⟨by omega, by omega⟩ hJ hb
      · refine lj_swIn G (tgt := 1014) (y := 22) d_law_33 hv hk (by decide) (by decide) rfl (by decide) ?_
        exact lc_free B I R S n hn hL hi6 ⟨by omega, by omega⟩ hJ hb
      · refine lj_swIn G (tgt := 1038) (y := 23) d_law_33 hv hk (by decide) (by decide) rfl (by decide) ?_
        exact lc_may B I R S n hn hL hi6 ⟨by omega, by omega⟩ hJ hb
      · refine lj_swIn G (tgt := 1091) (y := 24) d_law_33 hv hk (by decide) (by decide) rfl (by decide) ?_
        exact lc_motion B I R S n hn hL hi6 ⟨by omega, by omega⟩ hJ hb
      · refine lj_swIn G (tgt := 1124) (y := 25) d_law_33 hv hk (by decide) (by decide) rfl (by decide) ?_
        exact lc_alike B I R S n hn hL hi6 ⟨by omega, by omega⟩ hJ hb
      · refine lj_swIn G (tgt := 1167) (y := 26) d_law_33 hv hk (by decide) (by decide) rfl (by decide) ?_
        exact lc_found B I R S n hn hL hi6 ⟨by omega, by omega⟩ hJ hb
      · refine lj_swIn G (tgt := 1190) (y := 27) d_law_33 hv hk (by decide) (by decide) rfl (by decide) ?_
        exact lc_ring B I R S n hn hL hi6 ⟨by omega, by omega⟩ hJ hb
      · refine lj_swIn G (tgt := 1213) (y := 28) d_law_33 hv hk (by decide) (by decide) rfl (by decide) ?_
        exact lc_breaks B I R S n hn hL hi6 ⟨by omega, by omega⟩ hJ hb
      · refine lj_swIn G (tgt := 1227) (y := 29) d_law_33 hv hk (by decide) (by decide) rfl (by decide) ?_
        exact lc_act B I R S n hn hL hi6 ⟨by omega, by omega⟩ hJ hb
      · refine lj_swIn G (tgt := 1270) (y := 30) d_law_33 hv hk (by decide) (by decide) rfl (by decide) ?_
        exact lc_trace B I R S n hn hL hi6 ⟨by omega, by omega⟩ hJ hb
      · refine lj_swIn G (tgt := 1293) (y := 31) d_law_33 hv hk (by decide) (by decide) rfl (by decide) ?_
        exact lc_taken B I R S n hn hL hi6 ⟨by omega, by omega⟩ hJ hb
      · refine lj_swIn G (tgt := 1326) (y := 32) d_law_33 hv hk (by decide) (by decide) rfl (by decide) ?_
        exact lc_count B I R S n hn hL hi6 ⟨by omega, by omega⟩ hJ hb
      · refine lj_swIn G (tgt := 1349) (y := 33) d_law_33 hv hk (by decide) (by decide) rfl (by decide) ?_
        exact lc_tape B I R S n hn hL hi6 ⟨by omega, by omega⟩ hJ hb
      · refine lj_swIn G (tgt := 1392) (y := 34) d_law_33 hv hk (by decide) (by decide) rfl (by decide) ?_
        exact lc_item B I R S n hn hL hi6 ⟨by omega, by omega⟩ hJ hb
      · refine lj_swIn G (tgt := 1465) (y := 35) d_law_33 hv hk (by decide) (by decide) rfl (by decide) ?_
        exact lc_read B I R S n hn hL hi6 ⟨by omega, by omega⟩ hJ hb
      · refine lj_swIn G (tgt := 1499) (y := 36) d_law_33 hv hk (by decide) (by decide) rfl (by decide) ?_
        exact lc_shift B I R S n hn hL hi6 ⟨by omega, by omega⟩ hJ hb
    · refine lj_swOut G (tgt := 1562) d_law_33 hv (by omega) (by decide) ?_
      exact hb M N hJ
