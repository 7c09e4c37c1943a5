/-! Written by wip/whole/gen: what each method does, as a function of its arguments and the memory. -/
def f_JI_bitCount (n : Nat) (x0 : Int) (M : Mm) : Rr := some (ian (w32 ((w32 ((ian (w32 ((w32 ((ian (w32 (x0 - (ian (isu x0 1) 1431655765))) 858993459) + (ian (isu (w32 (x0 - (ian (isu x0 1) 1431655765))) 2) 858993459))) + (isu (w32 ((ian (w32 (x0 - (ian (isu x0 1) 1431655765))) 858993459) + (ian (isu (w32 (x0 - (ian (isu x0 1) 1431655765))) 2) 858993459))) 4))) 252645135) + (isu (ian (w32 ((w32 ((ian (w32 (x0 - (ian (isu x0 1) 1431655765))) 858993459) + (ian (isu (w32 (x0 - (ian (isu x0 1) 1431655765))) 2) 858993459))) + (isu (w32 ((ian (w32 (x0 - (ian (isu x0 1) 1431655765))) 858993459) + (ian (isu (w32 (x0 - (ian (isu x0 1) 1431655765))) 2) 858993459))) 4))) 252645135) 8))) + (isu (w32 ((ian (w32 ((w32 ((ian (w32 (x0 - (ian (isu x0 1) 1431655765))) 858993459) + (ian (isu (w32 (x0 - (ian (isu x0 1) 1431655765))) 2) 858993459))) + (isu (w32 ((ian (w32 (x0 - (ian (isu x0 1) 1431655765))) 858993459) + (ian (isu (w32 (x0 - (ian (isu x0 1) 1431655765))) 2) 858993459))) 4))) 252645135) + (isu (ian (w32 ((w32 ((ian (w32 (x0 - (ian (isu x0 1) 1431655765))) 858993459) + (ian (isu (w32 (x0 - (ian (isu x0 1) 1431655765))) 2) 858993459))) + (isu (w32 ((ian (w32 (x0 - (ian (isu x0 1) 1431655765))) 858993459) + (ian (isu (w32 (x0 - (ian (isu x0 1) 1431655765))) 2) 858993459))) 4))) 252645135) 8))) 16))) 63, M)
def f_W_pass (n : Nat) (x1 : Int) (M : Mm) : Rr := if x1 < 1 then some ((-2), M) else (if 99 < x1 then some ((-2), M) else (if w32 ((M 1 0) + x1) ≤ 999 then some (((mset M 1 0 (w32 ((M 1 0) + x1))) 1 0), (mset M 1 0 (w32 ((M 1 0) + x1)))) else (some ((-2), M))))
def f_R_isHolder_16 (n : Nat) (M : Mm) : Rr := some (0, M)
def f_R_isHolder (n : Nat) (x1 : Int) (M : Mm) : Rr := if x1 < 0 then f_R_isHolder_16 n   M else (if (M 1 1) ≤ x1 then f_R_isHolder_16 n   M else (some (1, M)))
def f_R_isFirm_22 (n : Nat) (M : Mm) : Rr := some (0, M)
def f_R_isFirm (n : Nat) (x1 : Int) (M : Mm) : Rr := bnd (f_R_isHolder n x1 M) (fun r1 M1 => if r1 = 0 then f_R_isFirm_22 n   M1 else (ck (0 ≤ x1 ∧ x1 < 16) (if (M1 17 x1.toNat) ≠ 1 then f_R_isFirm_22 n   M1 else (some (1, M1)))))
def f_R_partsIn_33 (n : Nat) (k4 : Int → Int → Int → Mm → Rr) (x1 x3 s0 s1 : Int) (M : Mm) : Rr := k4 x1 (w32 (s0 + s1)) (w32 (x3 + 1)) M
def f_R_partsIn_4 (n : Nat) (k4 : Int → Int → Int → Mm → Rr) (x1 x2 x3 : Int) (M : Mm) : Rr := if (M 1 4) ≤ x3 then some (x2, M) else (ck (0 ≤ x3 ∧ x3 < 40) (if (M 21 x3.toNat) ≠ x1 then f_R_partsIn_33 n k4 x1 x3 x2 0 M else (ck (0 ≤ x3 ∧ x3 < 40) (f_R_partsIn_33 n k4 x1 x3 x2 (M 22 x3.toNat) M))))
def lp_R_partsIn_4 (n : Nat) : Nat → Int → Int → Int → Mm → Rr
  | 0, _, _, _, _ => none
  | f + 1, x1, x2, x3, M => f_R_partsIn_4 n (lp_R_partsIn_4 n f) x1 x2 x3 M
def f_R_partsIn (n : Nat) (x1 : Int) (M : Mm) : Rr := lp_R_partsIn_4 n  n x1 0 0 M
def f_R_move (n : Nat) (x1 x2 : Int) (M : Mm) : Rr := if 160 ≤ (M 1 16) then some (0, M) else (ck (0 ≤ (M 1 16) ∧ (M 1 16) < 160) (ck (0 ≤ ((mset M 27 (M 1 16).toNat x1) 1 16) ∧ ((mset M 27 (M 1 16).toNat x1) 1 16) < 160) (ck (0 ≤ ((mset (mset M 27 (M 1 16).toNat x1) 28 ((mset M 27 (M 1 16).toNat x1) 1 16).toNat x2) 1 16) ∧ ((mset (mset M 27 (M 1 16).toNat x1) 28 ((mset M 27 (M 1 16).toNat x1) 1 16).toNat x2) 1 16) < 160) (some (0, (mset (mset (mset (mset M 27 (M 1 16).toNat x1) 28 ((mset M 27 (M 1 16).toNat x1) 1 16).toNat x2) 29 ((mset (mset M 27 (M 1 16).toNat x1) 28 ((mset M 27 (M 1 16).toNat x1) 1 16).toNat x2) 1 16).toNat ((mset (mset M 27 (M 1 16).toNat x1) 28 ((mset M 27 (M 1 16).toNat x1) 1 16).toNat x2) 1 0)) 1 16 (w32 (((mset (mset (mset M 27 (M 1 16).toNat x1) 28 ((mset M 27 (M 1 16).toNat x1) 1 16).toNat x2) 29 ((mset (mset M 27 (M 1 16).toNat x1) 28 ((mset M 27 (M 1 16).toNat x1) 1 16).toNat x2) 1 16).toNat ((mset (mset M 27 (M 1 16).toNat x1) 28 ((mset M 27 (M 1 16).toNat x1) 1 16).toNat x2) 1 0)) 1 16) + 1))))))))
def f_R_issue (n : Nat) (x1 x2 x3 x4 : Int) (M : Mm) : Rr := if (M 1 4) < 40 then ck (0 ≤ (M 1 4) ∧ (M 1 4) < 40) (ck (0 ≤ (M 1 4) ∧ (M 1 4) < 40) (ck (0 ≤ (M 1 4) ∧ (M 1 4) < 40) (bnd (f_R_move n (M 1 4) x2 (mset (mset (mset (mset M 21 (M 1 4).toNat x1) 22 (M 1 4).toNat x3) 23 (M 1 4).toNat x4) 1 4 (w32 (((mset (mset (mset M 21 (M 1 4).toNat x1) 22 (M 1 4).toNat x3) 23 (M 1 4).toNat x4) 1 4) + 1)))) (fun r8 M8 => some ((M 1 4), M8))))) else (some ((-4), M))
def f_W_share (n : Nat) (x1 x2 x3 x4 : Int) (M : Mm) : Rr := bnd (f_R_isFirm n x1 M) (fun r1 M1 => if r1 = 0 then some ((-1), M1) else (bnd (f_R_isHolder n x2 M1) (fun r3 M3 => if r3 ≠ 0 then if x3 < 0 then some ((-2), M3) else (if 12 < x3 then some ((-2), M3) else (if x4 < 0 then some ((-2), M3) else (if x4 ≤ 99 then bnd (f_R_partsIn n x1 M3) (fun r9 M9 => if w32 (r9 + x3) ≤ 12 then bnd (f_R_issue n x1 x2 x3 x4 M9) (fun r11 M11 => some (r11, M11)) else (some ((-3), M9))) else (some ((-2), M3))))) else (some ((-1), M3)))))
def f_R_isShare_16 (n : Nat) (M : Mm) : Rr := some (0, M)
def f_R_isShare (n : Nat) (x1 : Int) (M : Mm) : Rr := if x1 < 0 then f_R_isShare_16 n   M else (if (M 1 4) ≤ x1 then f_R_isShare_16 n   M else (some (1, M)))
def f_W_price (n : Nat) (x1 x2 : Int) (M : Mm) : Rr := bnd (f_R_isShare n x1 M) (fun r1 M1 => if r1 ≠ 0 then if x2 < 0 then some ((-2), M1) else (if x2 ≤ 999 then ck (0 ≤ x1 ∧ x1 < 40) (ck (0 ≤ x1 ∧ x1 < 40) (some ((M1 24 x1.toNat), (mset M1 24 x1.toNat x2)))) else (some ((-2), M1))) else (some ((-1), M1)))
def f_R_lookAt_20 (n : Nat) (k20 : Int → Int → Mm → Rr) (x1 x2 : Int) (M : Mm) : Rr := if (M 1 16) ≤ x2 then some (0, M) else (ck (0 ≤ x2 ∧ x2 < 160) (if x1 < (M 29 x2.toNat) then some (0, M) else (ck (0 ≤ x2 ∧ x2 < 160) (ck (0 ≤ x2 ∧ x2 < 160) (ck (0 ≤ (M 27 x2.toNat) ∧ (M 27 x2.toNat) < 40) (ck (0 ≤ x2 ∧ x2 < 160) (ck (0 ≤ x2 ∧ x2 < 160) (ck (0 ≤ ((mset M 25 (M 27 x2.toNat).toNat (M 28 x2.toNat)) 27 x2.toNat) ∧ ((mset M 25 (M 27 x2.toNat).toNat (M 28 x2.toNat)) 27 x2.toNat) < 40) (k20 x1 (w32 (x2 + 1)) (mset (mset M 25 (M 27 x2.toNat).toNat (M 28 x2.toNat)) 26 ((mset M 25 (M 27 x2.toNat).toNat (M 28 x2.toNat)) 27 x2.toNat).toNat ((mset M 25 (M 27 x2.toNat).toNat (M 28 x2.toNat)) 29 x2.toNat)))))))))))
def lp_R_lookAt_20 (n : Nat) : Nat → Int → Int → Mm → Rr
  | 0, _, _, _ => none
  | f + 1, x1, x2, M => f_R_lookAt_20 n (lp_R_lookAt_20 n f) x1 x2 M
def f_R_lookAt (n : Nat) (x1 : Int) (M : Mm) : Rr := lp_R_lookAt_20 n  n x1 0 (mfil (mfil M 25 40 (-5)) 26 40 (-5))
def f_R_sales (n : Nat) (M : Mm) : Rr := some (w32 ((M 1 16) - (M 1 4)), M)
def f_W_sale (n : Nat) (x1 x2 : Int) (M : Mm) : Rr := bnd (f_R_isShare n x1 M) (fun r1 M1 => if r1 = 0 then some ((-1), M1) else (bnd (f_R_isHolder n x2 M1) (fun r3 M3 => if r3 ≠ 0 then bnd (f_R_lookAt n (M3 1 0) M3) (fun r6 M6 => ck (0 ≤ x1 ∧ x1 < 40) (if (M6 25 x1.toNat) ≠ x2 then bnd (f_R_sales n  M6) (fun r10 M10 => if r10 < 120 then bnd (f_R_move n x1 x2 M10) (fun r12 M12 => bnd (f_R_sales n  M12) (fun r13 M13 => some (r13, M13))) else (some ((-4), M10))) else (some ((-3), M6)))) else (some ((-1), M3)))))
def f_W_of (n : Nat) (x1 x2 : Int) (M : Mm) : Rr := bnd (f_R_isShare n x1 M) (fun r1 M1 => if r1 ≠ 0 then if x2 = 0 then ck (0 ≤ x1 ∧ x1 < 40) (some ((M1 21 x1.toNat), M1)) else (if x2 = 1 then ck (0 ≤ x1 ∧ x1 < 40) (some ((M1 22 x1.toNat), M1)) else (if x2 = 2 then ck (0 ≤ x1 ∧ x1 < 40) (some ((M1 23 x1.toNat), M1)) else (if x2 = 3 then ck (0 ≤ x1 ∧ x1 < 40) (some ((M1 24 x1.toNat), M1)) else (some ((-1), M1))))) else (some ((-1), M1)))
def f_W_isDay_15 (n : Nat) (M : Mm) : Rr := some (0, M)
def f_W_isDay (n : Nat) (x0 : Int) (M : Mm) : Rr := if x0 < 0 then f_W_isDay_15 n   M else (if 999 < x0 then f_W_isDay_15 n   M else (some (1, M)))
def f_W_held (n : Nat) (x1 x2 x3 : Int) (M : Mm) : Rr := bnd (f_R_isShare n x1 M) (fun r1 M1 => if r1 = 0 then some ((-1), M1) else (bnd (f_W_isDay n x2 M1) (fun r3 M3 => if r3 = 0 then some ((-1), M3) else (if x3 < 0 then some ((-1), M3) else (if x3 ≤ 1 then bnd (f_R_lookAt n x2 M3) (fun r7 M7 => if x3 ≠ 0 then ck (0 ≤ x1 ∧ x1 < 40) (some ((M7 26 x1.toNat), M7)) else (ck (0 ≤ x1 ∧ x1 < 40) (some ((M7 25 x1.toNat), M7)))) else (some ((-1), M3)))))))
def f_C_append (n : Nat) (x1 : Int) (M : Mm) : Rr := if 100 ≤ (M 2 1) then some (0, M) else (ck (0 ≤ (M 2 1) ∧ (M 2 1) < 100) (some (0, (mset (mset M 30 (M 2 1).toNat (w8 x1)) 2 1 (w32 (((mset M 30 (M 2 1).toNat (w8 x1)) 2 1) + 1))))))
def f_W_feed_33 (n : Nat) (k33 : Int → Int → Mm → Rr) (x1 x3 : Int) (M : Mm) : Rr := if x3 < 0 then some ((M 2 1), M) else (bnd (f_C_append n (w8 (isr x1 (w32 (8 * x3)))) M) (fun r3 M3 => k33 x1 (w32 (x3 + (-1))) M3))
def lp_W_feed_33 (n : Nat) : Nat → Int → Int → Mm → Rr
  | 0, _, _, _ => none
  | f + 1, x1, x3, M => f_W_feed_33 n (lp_W_feed_33 n f) x1 x3 M
def f_W_feed (n : Nat) (x1 x2 : Int) (M : Mm) : Rr := if x2 < 0 then some ((-2), M) else (if x2 ≤ 4 then if w32 ((M 2 1) + x2) ≤ 100 then lp_W_feed_33 n  n x1 (w32 (x2 - 1)) M else (some ((-4), M)) else (some ((-2), M)))
def f_C_nameOf (n : Nat) (x0 : Int) (M : Mm) : Rr := if x0 = 0 then some (0, M) else (if x0 = 1 then some (1, M) else (if x0 = 2 then some (2, M) else (if x0 = 3 then some (3, M) else (some (4, M)))))
def f_C_takes (n : Nat) (x1 : Int) (M : Mm) : Rr := if (M 2 1) ≤ (M 2 3) then some (0, M) else (ck (0 ≤ (M 2 3) ∧ (M 2 3) < 100) (if (M 30 (M 2 3).toNat) = x1 then some (1, (mset M 2 3 (w32 ((M 2 3) + 1)))) else (some (0, M))))
def f_C_takesAll_2 (n : Nat) (k2 : Int → Int → Mm → Rr) (x1 x2 : Int) (M : Mm) : Rr := if sLen x1 ≤ x2 then some (1, M) else (ck (0 ≤ x2 ∧ x2 < sLen x1) (bnd (f_C_takes n (sCh x1 x2) M) (fun r3 M3 => if r3 ≠ 0 then k2 x1 (w32 (x2 + 1)) M3 else (some (0, M3)))))
def lp_C_takesAll_2 (n : Nat) : Nat → Int → Int → Mm → Rr
  | 0, _, _, _ => none
  | f + 1, x1, x2, M => f_C_takesAll_2 n (lp_C_takesAll_2 n f) x1 x2 M
def f_C_takesAll (n : Nat) (x1 : Int) (M : Mm) : Rr := lp_C_takesAll_2 n  n x1 0 M
def f_C_readWord_54 (n : Nat) (k2 : Int → Mm → Rr) (x1 : Int) (M : Mm) : Rr := k2 (w32 (x1 + 1)) M
def f_C_readWord_2 (n : Nat) (k2 : Int → Mm → Rr) (x1 : Int) (M : Mm) : Rr := if 5 ≤ x1 then some ((-1), M) else (bnd (f_C_nameOf n x1 M) (fun r2 M2 => if (M2 2 1) ≤ (M2 2 3) then f_C_readWord_54 n k2 x1 M2 else (ck (0 ≤ (M2 2 3) ∧ (M2 2 3) < 100) (ck (0 ≤ (0 : Int) ∧ (0 : Int) < sLen r2) (if (M2 30 (M2 2 3).toNat) ≠ sCh r2 0 then f_C_readWord_54 n k2 x1 M2 else (bnd (f_C_takesAll n r2 M2) (fun r9 M9 => if r9 = 0 then some ((-1), M9) else (some (x1, M9)))))))))
def lp_C_readWord_2 (n : Nat) : Nat → Int → Mm → Rr
  | 0, _, _ => none
  | f + 1, x1, M => f_C_readWord_2 n (lp_C_readWord_2 n f) x1 M
def f_C_readWord (n : Nat) (M : Mm) : Rr := lp_C_readWord_2 n  n 0 M
def f_C_put (n : Nat) (x1 : Int) (M : Mm) : Rr := if 2000 ≤ (M 2 11) then some (0, M) else (ck (0 ≤ (M 2 11) ∧ (M 2 11) < 2000) (some (0, (mset (mset M 37 (M 2 11).toNat x1) 2 11 (w32 (((mset M 37 (M 2 11).toNat x1) 2 11) + 1))))))
def f_C_takesOneOf_50 (n : Nat) (k2 : Int → Int → Mm → Rr) (x1 x2 : Int) (M : Mm) : Rr := k2 x1 (w32 (x2 + 1)) M
def f_C_takesOneOf_2 (n : Nat) (k2 : Int → Int → Mm → Rr) (x1 x2 : Int) (M : Mm) : Rr := if sLen x1 ≤ x2 then some ((-1), M) else (if (M 2 1) ≤ (M 2 3) then f_C_takesOneOf_50 n k2 x1 x2 M else (ck (0 ≤ (M 2 3) ∧ (M 2 3) < 100) (ck (0 ≤ x2 ∧ x2 < sLen x1) (if (M 30 (M 2 3).toNat) ≠ sCh x1 x2 then f_C_takesOneOf_50 n k2 x1 x2 M else (some (x2, (mset M 2 3 (w32 ((M 2 3) + 1)))))))))
def lp_C_takesOneOf_2 (n : Nat) : Nat → Int → Int → Mm → Rr
  | 0, _, _, _ => none
  | f + 1, x1, x2, M => f_C_takesOneOf_2 n (lp_C_takesOneOf_2 n f) x1 x2 M
def f_C_takesOneOf (n : Nat) (x1 : Int) (M : Mm) : Rr := lp_C_takesOneOf_2 n  n x1 0 M
def f_C_readNumber_108 (n : Nat) (s1 s2 : Int) (M : Mm) : Rr := some ((-1), (mset M 2 3 (w32 (s1 - s2))))
def f_C_readNumber_82 (n : Nat) (x1 x2 x3 : Int) (M : Mm) : Rr := if x3 ≠ 0 then if x1 ≤ x2 then some (x2, M) else (if x3 ≠ 3 then f_C_readNumber_108 n  (M 2 3) 0 M else (f_C_readNumber_108 n  (M 2 3) 1 M)) else (some ((-1), M))
def f_C_readNumber_4 (n : Nat) (k4 : Int → Int → Int → Mm → Rr) (x1 x2 x3 : Int) (M : Mm) : Rr := if 3 ≤ x3 then f_C_readNumber_82 n  x1 x2 x3 M else (if (M 2 1) ≤ (M 2 3) then f_C_readNumber_82 n  x1 x2 x3 M else (ck (0 ≤ (M 2 3) ∧ (M 2 3) < 100) (if (M 30 (M 2 3).toNat) < 48 then f_C_readNumber_82 n  x1 x2 x3 M else (ck (0 ≤ (M 2 3) ∧ (M 2 3) < 100) (if 57 < (M 30 (M 2 3).toNat) then f_C_readNumber_82 n  x1 x2 x3 M else (ck (0 ≤ (M 2 3) ∧ (M 2 3) < 100) (k4 x1 (w32 ((w32 ((w32 (x2 * 10)) + (M 30 (M 2 3).toNat))) - 48)) (w32 (x3 + 1)) (mset M 2 3 (w32 ((M 2 3) + 1))))))))))
def lp_C_readNumber_4 (n : Nat) : Nat → Int → Int → Int → Mm → Rr
  | 0, _, _, _, _ => none
  | f + 1, x1, x2, x3, M => f_C_readNumber_4 n (lp_C_readNumber_4 n f) x1 x2 x3 M
def f_C_readNumber (n : Nat) (x1 : Int) (M : Mm) : Rr := lp_C_readNumber_4 n  n x1 0 0 M
def f_C_readTest_35 (n : Nat) (x1 x2 s0 : Int) (M : Mm) : Rr := if 0 ≤ s0 then bnd (f_C_put n (w32 ((w32 ((w32 (x1 * 3000)) + (w32 (x2 * 1000)))) + s0)) M) (fun r2 M2 => some (1, M2)) else (some (0, M))
def f_C_readTest_21 (n : Nat) (x1 s0 : Int) (M : Mm) : Rr := if 0 ≤ s0 then bnd (f_C_readNumber n 0 M) (fun r2 M2 => f_C_readTest_35 n  x1 s0 r2 M2) else (f_C_readTest_35 n  x1 s0 (-1) M)
def f_C_readTest (n : Nat) (M : Mm) : Rr := bnd (f_C_takesOneOf n 5 M) (fun r1 M1 => if 0 ≤ r1 then bnd (f_C_takesOneOf n 6 M1) (fun r3 M3 => f_C_readTest_21 n  r1 r3 M3) else (f_C_readTest_21 n  r1 (-1) M1))
def f_C_readNot (n : Nat) (rec : Nat → Int → Mm → Rr) (x1 : Int) (M : Mm) : Rr := bnd (rec 2 x1 M) (fun r1 M1 => if r1 ≠ 0 then bnd (f_C_put n (-3) M1) (fun r3 M3 => some (1, M3)) else (some (0, M1)))
def f_C_readOne_61 (n : Nat) (rec : Nat → Int → Mm → Rr) (M : Mm) : Rr := bnd (f_C_readTest n  M) (fun r1 M1 => some (r1, M1))
def f_C_readOne_59 (n : Nat) (rec : Nat → Int → Mm → Rr) (M : Mm) : Rr := some (0, M)
def f_C_readOne_22 (n : Nat) (rec : Nat → Int → Mm → Rr) (x1 : Int) (M : Mm) : Rr := if 4 ≤ x1 then f_C_readOne_61 n rec   M else (bnd (f_C_takes n 40 M) (fun r2 M2 => if r2 = 0 then f_C_readOne_61 n rec   M2 else (bnd (rec 0 (w32 (x1 + 1)) M2) (fun r4 M4 => if r4 = 0 then f_C_readOne_59 n rec   M4 else (bnd (f_C_takes n 41 M4) (fun r6 M6 => if r6 = 0 then f_C_readOne_59 n rec   M6 else (some (1, M6))))))))
def f_C_readOne (n : Nat) (rec : Nat → Int → Mm → Rr) (x1 : Int) (M : Mm) : Rr := if 4 ≤ x1 then f_C_readOne_22 n rec  x1 M else (bnd (f_C_takes n 33 M) (fun r2 M2 => if r2 = 0 then f_C_readOne_22 n rec  x1 M2 else (bnd (rec 3 (w32 (x1 + 1)) M2) (fun r4 M4 => some (r4, M4)))))
def f_C_readEvery_12 (n : Nat) (rec : Nat → Int → Mm → Rr) (k12 : Int → Int → Mm → Rr) (x1 x2 : Int) (M : Mm) : Rr := if 100 ≤ x2 then some (1, M) else (bnd (f_C_takes n 38 M) (fun r2 M2 => if r2 = 0 then some (1, M2) else (bnd (rec 2 x1 M2) (fun r4 M4 => if r4 ≠ 0 then bnd (f_C_put n (-1) M4) (fun r6 M6 => k12 x1 (w32 (x2 + 1)) M6) else (some (0, M4))))))
def lp_C_readEvery_12 (n : Nat) (rec : Nat → Int → Mm → Rr) : Nat → Int → Int → Mm → Rr
  | 0, _, _, _ => none
  | f + 1, x1, x2, M => f_C_readEvery_12 n rec (lp_C_readEvery_12 n rec f) x1 x2 M
def f_C_readEvery (n : Nat) (rec : Nat → Int → Mm → Rr) (x1 : Int) (M : Mm) : Rr := bnd (rec 2 x1 M) (fun r1 M1 => if r1 ≠ 0 then lp_C_readEvery_12 n rec  n x1 0 M1 else (some (0, M1)))
def f_C_readAny_12 (n : Nat) (rec : Nat → Int → Mm → Rr) (k12 : Int → Int → Mm → Rr) (x1 x2 : Int) (M : Mm) : Rr := if 100 ≤ x2 then some (1, M) else (bnd (f_C_takes n 124 M) (fun r2 M2 => if r2 = 0 then some (1, M2) else (bnd (rec 1 x1 M2) (fun r4 M4 => if r4 ≠ 0 then bnd (f_C_put n (-2) M4) (fun r6 M6 => k12 x1 (w32 (x2 + 1)) M6) else (some (0, M4))))))
def lp_C_readAny_12 (n : Nat) (rec : Nat → Int → Mm → Rr) : Nat → Int → Int → Mm → Rr
  | 0, _, _, _ => none
  | f + 1, x1, x2, M => f_C_readAny_12 n rec (lp_C_readAny_12 n rec f) x1 x2 M
def f_C_readAny (n : Nat) (rec : Nat → Int → Mm → Rr) (x1 : Int) (M : Mm) : Rr := bnd (rec 1 x1 M) (fun r1 M1 => if r1 ≠ 0 then lp_C_readAny_12 n rec  n x1 0 M1 else (some (0, M1)))
def g_rd (n : Nat) : Nat → Nat → Int → Mm → Rr
  | 0, _, _, _ => none
  | d + 1, 0, x0, M => f_C_readAny n (g_rd n d) x0 M
  | d + 1, 1, x0, M => f_C_readEvery n (g_rd n d) x0 M
  | d + 1, 2, x0, M => f_C_readOne n (g_rd n d) x0 M
  | d + 1, _, x0, M => f_C_readNot n (g_rd n d) x0 M
def f_C_readClause_90 (n : Nat) (x1 : Int) (M : Mm) : Rr := ck (0 ≤ x1 ∧ x1 < 120) (if (M 35 x1.toNat) < 0 then some (0, M) else (some (1, M)))
def f_C_readClause_131 (n : Nat) (x1 s1 s3 : Int) (M : Mm) : Rr := bnd (f_C_readNumber n s3 M) (fun r1 M1 => ck (0 ≤ s1 ∧ s1 < 120) (ck (0 ≤ x1 ∧ x1 < 120) (if ((mset M1 36 s1.toNat r1) 36 x1.toNat) < 0 then some (0, (mset M1 36 s1.toNat r1)) else (some (1, (mset M1 36 s1.toNat r1))))))
def f_C_readClause (n : Nat) (x1 : Int) (M : Mm) : Rr := bnd (f_C_readWord n  M) (fun r1 M1 => if r1 < 0 then some (0, M1) else (bnd (f_C_takes n 32 M1) (fun r3 M3 => if r3 ≠ 0 then ck (0 ≤ x1 ∧ x1 < 120) (if r1 ≠ 4 then bnd (f_C_readNumber n 0 (mset M3 34 x1.toNat r1)) (fun r7 M7 => ck (0 ≤ x1 ∧ x1 < 120) (ck (0 ≤ x1 ∧ x1 < 120) (if ((mset M7 35 x1.toNat r7) 35 x1.toNat) < 0 then f_C_readClause_90 n  x1 (mset M7 35 x1.toNat r7) else (if r1 = 1 then f_C_readClause_90 n  x1 (mset M7 35 x1.toNat r7) else (if r1 ≠ 3 then bnd (f_C_takes n 32 (mset M7 35 x1.toNat r7)) (fun r14 M14 => if r14 ≠ 0 then if r1 ≠ 0 then f_C_readClause_131 n  x1 x1 0 M14 else (f_C_readClause_131 n  x1 x1 1 M14) else (some (0, M14))) else (f_C_readClause_90 n  x1 (mset M7 35 x1.toNat r7))))))) else (ck (0 ≤ x1 ∧ x1 < 120) (bnd (g_rd n 40 0 0 (mset (mset M3 34 x1.toNat r1) 35 x1.toNat ((mset M3 34 x1.toNat r1) 2 11))) (fun r19 M19 => ck (0 ≤ x1 ∧ x1 < 120) (some (r19, (mset M19 36 x1.toNat (M19 2 11)))))))) else (some (0, M3)))))
def f_C_parse_108 (n : Nat) (M : Mm) : Rr := some (((mset M 2 1 0) 2 3), (mset M 2 1 0))
def f_C_parse_101 (n : Nat) (k20 : Int → Int → Mm → Rr) (x2 s0 : Int) (M : Mm) : Rr := k20 s0 (w32 (x2 + 1)) M
def f_C_parse_100 (n : Nat) (k20 : Int → Int → Mm → Rr) (x2 : Int) (M : Mm) : Rr := f_C_parse_101 n k20 x2 0 M
def f_C_parse_78 (n : Nat) (k20 : Int → Int → Mm → Rr) (x1 x2 : Int) (M : Mm) : Rr := if x1 = 0 then f_C_parse_100 n k20 x2 M else (if 5 ≤ x2 then f_C_parse_100 n k20 x2 M else (bnd (f_C_takes n 59 M) (fun r3 M3 => if r3 = 0 then f_C_parse_100 n k20 x2 M3 else (f_C_parse_101 n k20 x2 1 M3))))
def f_C_parse_20 (n : Nat) (k20 : Int → Int → Mm → Rr) (x1 x2 : Int) (M : Mm) : Rr := if 6 ≤ x2 then f_C_parse_108 n   M else (if x1 = 0 then f_C_parse_108 n   M else (bnd (f_C_readClause n (w32 ((w32 ((M 2 0) * 6)) + x2)) M) (fun r4 M4 => if r4 = 0 then f_C_parse_78 n k20 r4 x2 M4 else (if (M4 2 3) < (M4 2 1) then f_C_parse_78 n k20 r4 x2 M4 else (ck (0 ≤ (M4 2 0) ∧ (M4 2 0) < 20) (some ((-1), (mset (mset M4 33 (M4 2 0).toNat (w32 (x2 + 1))) 2 1 0))))))))
def lp_C_parse_20 (n : Nat) : Nat → Int → Int → Mm → Rr
  | 0, _, _, _ => none
  | f + 1, x1, x2, M => f_C_parse_20 n (lp_C_parse_20 n f) x1 x2 M
def f_C_parse (n : Nat) (M : Mm) : Rr := lp_C_parse_20 n  n 1 0 (mset (mset M 2 3 0) 2 11 (w32 (((mset M 2 3 0) 2 0) * 100)))
def f_C_enact (n : Nat) (x1 x2 : Int) (M : Mm) : Rr := ck (0 ≤ (M 2 0) ∧ (M 2 0) < 20) (ck (0 ≤ ((mset M 31 (M 2 0).toNat x1) 2 0) ∧ ((mset M 31 (M 2 0).toNat x1) 2 0) < 20) (some (w32 (((mset (mset (mset M 31 (M 2 0).toNat x1) 32 ((mset M 31 (M 2 0).toNat x1) 2 0).toNat x2) 2 0 (w32 (((mset (mset M 31 (M 2 0).toNat x1) 32 ((mset M 31 (M 2 0).toNat x1) 2 0).toNat x2) 2 0) + 1))) 2 0) - 1), (mset (mset (mset M 31 (M 2 0).toNat x1) 32 ((mset M 31 (M 2 0).toNat x1) 2 0).toNat x2) 2 0 (w32 (((mset (mset M 31 (M 2 0).toNat x1) 32 ((mset M 31 (M 2 0).toNat x1) 2 0).toNat x2) 2 0) + 1))))))
def f_W_charter (n : Nat) (x1 x2 : Int) (M : Mm) : Rr := bnd (f_R_isFirm n x1 M) (fun r1 M1 => if r1 ≠ 0 then bnd (f_W_isDay n x2 M1) (fun r3 M3 => if r3 ≠ 0 then if (M3 2 0) < 20 then bnd (f_C_parse n  M3) (fun r7 M7 => if r7 < 0 then bnd (f_C_enact n x1 x2 M7) (fun r9 M9 => some (r9, M9)) else (some (w32 ((-10) - r7), M7))) else (some ((-4), M3)) else (some ((-2), M3))) else (some ((-1), M1)))
def f_W_isWord_13 (n : Nat) (M : Mm) : Rr := some (0, M)
def f_W_isWord (n : Nat) (x0 : Int) (M : Mm) : Rr := if x0 < 0 then f_W_isWord_13 n   M else (if 5 ≤ x0 then f_W_isWord_13 n   M else (some (1, M)))
def f_C_lastOf_9 (n : Nat) (k9 : Int → Int → Int → Mm → Rr) (x1 x2 x3 : Int) (M : Mm) : Rr := if x3 < 0 then some ((-1), M) else (ck (0 ≤ w32 ((w32 (x1 * 6)) + x3) ∧ w32 ((w32 (x1 * 6)) + x3) < 120) (if (M 34 (w32 ((w32 (x1 * 6)) + x3)).toNat) ≠ x2 then k9 x1 x2 (w32 (x3 + (-1))) M else (some (w32 ((w32 (x1 * 6)) + x3), M))))
def lp_C_lastOf_9 (n : Nat) : Nat → Int → Int → Int → Mm → Rr
  | 0, _, _, _, _ => none
  | f + 1, x1, x2, x3, M => f_C_lastOf_9 n (lp_C_lastOf_9 n f) x1 x2 x3 M
def f_C_lastOf (n : Nat) (x1 x2 : Int) (M : Mm) : Rr := ck (0 ≤ x1 ∧ x1 < 20) (lp_C_lastOf_9 n  n x1 x2 (w32 ((M 33 x1.toNat) - 1)) M)
def f_C_inForce_79 (n : Nat) (k9 : Int → Int → Int → Int → Int → Int → Mm → Rr) (x1 x2 x3 x4 x5 x6 : Int) (M : Mm) : Rr := k9 x1 x2 x3 x4 x5 (w32 (x6 + 1)) M
def f_C_inForce_9 (n : Nat) (k9 : Int → Int → Int → Int → Int → Int → Mm → Rr) (x1 x2 x3 x4 x5 x6 : Int) (M : Mm) : Rr := if (M 2 0) ≤ x6 then some (x4, M) else (ck (0 ≤ x6 ∧ x6 < 20) (if (M 31 x6.toNat) ≠ x1 then f_C_inForce_79 n k9 x1 x2 x3 x4 x5 x6 M else (ck (0 ≤ x6 ∧ x6 < 20) (if x3 < (M 32 x6.toNat) then f_C_inForce_79 n k9 x1 x2 x3 x4 x5 x6 M else (ck (0 ≤ x6 ∧ x6 < 20) (if (M 32 x6.toNat) < x5 then f_C_inForce_79 n k9 x1 x2 x3 x4 x5 x6 M else (bnd (f_C_lastOf n x6 x2 M) (fun r12 M12 => if r12 < 0 then f_C_inForce_79 n k9 x1 x2 x3 x4 x5 x6 M12 else (ck (0 ≤ x6 ∧ x6 < 20) (f_C_inForce_79 n k9 x1 x2 x3 r12 (M12 32 x6.toNat) x6 M12))))))))))
def lp_C_inForce_9 (n : Nat) : Nat → Int → Int → Int → Int → Int → Int → Mm → Rr
  | 0, _, _, _, _, _, _, _ => none
  | f + 1, x1, x2, x3, x4, x5, x6, M => f_C_inForce_9 n (lp_C_inForce_9 n f) x1 x2 x3 x4 x5 x6 M
def f_C_inForce (n : Nat) (x1 x2 x3 : Int) (M : Mm) : Rr := lp_C_inForce_9 n  n x1 x2 x3 (-1) (-1) 0 M
def f_C_firstOf (n : Nat) (x1 x2 : Int) (M : Mm) : Rr := if x1 < 0 then if x2 = 0 then some (1, M) else (if x2 = 3 then some ((-5), M) else (some (999, M))) else (ck (0 ≤ x1 ∧ x1 < 120) (some ((M 35 x1.toNat), M)))
def f_R_isVoteless_32 (n : Nat) (M : Mm) : Rr := some (0, M)
def f_R_isVoteless (n : Nat) (x1 : Int) (M : Mm) : Rr := bnd (f_R_isHolder n x1 M) (fun r1 M1 => if r1 = 0 then f_R_isVoteless_32 n   M1 else (ck (0 ≤ x1 ∧ x1 < 16) (if (M1 17 x1.toNat) = 4 then some (1, M1) else (ck (0 ≤ x1 ∧ x1 < 16) (if (M1 17 x1.toNat) ≠ 5 then f_R_isVoteless_32 n   M1 else (some (1, M1)))))))
def f_C_holds_183 (n : Nat) (k10 : Int → Int → Int → Mm → Rr) (x1 x3 x4 : Int) (M : Mm) : Rr := k10 x1 x3 (w32 (x4 + 1)) M
def f_C_holds_182 (n : Nat) (k10 : Int → Int → Int → Mm → Rr) (x1 x4 s0 : Int) (M : Mm) : Rr := f_C_holds_183 n k10 x1 s0 x4 M
def f_C_holds_133 (n : Nat) (k10 : Int → Int → Int → Mm → Rr) (x1 x4 s0 s1 : Int) (M : Mm) : Rr := f_C_holds_183 n k10 x1 (ior s0 s1) x4 M
def f_C_holds_118 (n : Nat) (k10 : Int → Int → Int → Mm → Rr) (x1 x3 x4 s0 : Int) (M : Mm) : Rr := if s0 = 0 then f_C_holds_133 n k10 x1 x4 (ish x3 1) 0 M else (f_C_holds_133 n k10 x1 x4 (ish x3 1) 1 M)
def f_C_holds_10 (n : Nat) (k10 : Int → Int → Int → Mm → Rr) (x1 x3 x4 : Int) (M : Mm) : Rr := ck (0 ≤ x1 ∧ x1 < 120) (if (M 36 x1.toNat) ≤ x4 then if ian x3 1 ≠ 1 then some (0, M) else (some (1, M)) else (ck (0 ≤ x4 ∧ x4 < 2000) (if (M 37 x4.toNat) < 0 then if (M 37 x4.toNat) ≠ (-3) then if (M 37 x4.toNat) ≠ (-2) then f_C_holds_182 n k10 x1 x4 (ian (isr x3 1) (ior (ian x3 1) (-2))) M else (f_C_holds_182 n k10 x1 x4 (ior (isr x3 1) (ian x3 1)) M) else (f_C_holds_183 n k10 x1 (ixo x3 1) x4 M) else (ck (0 ≤ idv (M 37 x4.toNat) 3000 ∧ idv (M 37 x4.toNat) 3000 < 5) (if idv (irm (M 37 x4.toNat) 3000) 1000 ≠ 0 then if idv (irm (M 37 x4.toNat) 3000) 1000 ≠ 1 then if (M 41 (idv (M 37 x4.toNat) 3000).toNat) ≤ irm (M 37 x4.toNat) 1000 then f_C_holds_118 n k10 x1 x3 x4 0 M else (f_C_holds_118 n k10 x1 x3 x4 1 M) else (if (M 41 (idv (M 37 x4.toNat) 3000).toNat) ≠ irm (M 37 x4.toNat) 1000 then f_C_holds_118 n k10 x1 x3 x4 0 M else (f_C_holds_118 n k10 x1 x3 x4 1 M)) else (if irm (M 37 x4.toNat) 1000 ≤ (M 41 (idv (M 37 x4.toNat) 3000).toNat) then f_C_holds_118 n k10 x1 x3 x4 0 M else (f_C_holds_118 n k10 x1 x3 x4 1 M)))))))
def lp_C_holds_10 (n : Nat) : Nat → Int → Int → Int → Mm → Rr
  | 0, _, _, _, _ => none
  | f + 1, x1, x3, x4, M => f_C_holds_10 n (lp_C_holds_10 n f) x1 x3 x4 M
def f_C_holds (n : Nat) (x1 : Int) (M : Mm) : Rr := ck (0 ≤ x1 ∧ x1 < 120) (lp_C_holds_10 n  n x1 0 (M 35 x1.toNat) M)
def f_U_sleeps (n : Nat) (x1 x2 x3 x4 : Int) (M : Mm) : Rr := ck (0 ≤ x1 ∧ x1 < 16) (if 0 ≤ (M (110 + x1.toNat) (4 : Int).toNat) then ck (0 ≤ x3 ∧ x3 < 16) (ck (0 ≤ x2 ∧ x2 < 40) (ck (0 ≤ x2 ∧ x2 < 40) (bnd (f_C_holds n (M (110 + x1.toNat) (4 : Int).toNat) (mset (mset (mset (mset (mset M 41 (0 : Int).toNat (M 17 x3.toNat)) 41 (1 : Int).toNat x3) 41 (2 : Int).toNat x4) 41 (3 : Int).toNat ((mset (mset (mset M 41 (0 : Int).toNat (M 17 x3.toNat)) 41 (1 : Int).toNat x3) 41 (2 : Int).toNat x4) 22 x2.toNat)) 41 (4 : Int).toNat ((mset (mset (mset (mset M 41 (0 : Int).toNat (M 17 x3.toNat)) 41 (1 : Int).toNat x3) 41 (2 : Int).toNat x4) 41 (3 : Int).toNat ((mset (mset (mset M 41 (0 : Int).toNat (M 17 x3.toNat)) 41 (1 : Int).toNat x3) 41 (2 : Int).toNat x4) 22 x2.toNat)) 23 x2.toNat))) (fun r10 M10 => some (r10, M10))))) else (some (0, M)))
def f_C_secondOf (n : Nat) (x1 x2 : Int) (M : Mm) : Rr := if x1 < 0 then if x2 ≠ 0 then some (1, M) else (some (2, M)) else (ck (0 ≤ x1 ∧ x1 < 120) (some ((M 36 x1.toNat), M)))
def f_U_weigh_118 (n : Nat) (s0 s1 : Int) (M : Mm) : Rr := some (w32 (s0 * s1), M)
def f_U_weigh_88 (n : Nat) (x1 x5 s0 : Int) (M : Mm) : Rr := ck (0 ≤ x1 ∧ x1 < 40) (if s0 = 0 then f_U_weigh_118 n  (M 23 x1.toNat) 1 M else (bnd (f_C_secondOf n x5 2 M) (fun r4 M4 => f_U_weigh_118 n  (M 23 x1.toNat) r4 M4)))
def f_U_weigh (n : Nat) (x1 x2 x3 : Int) (M : Mm) : Rr := ck (0 ≤ x1 ∧ x1 < 40) (if x2 < 0 then some (0, M) else (if x2 = (M 21 x1.toNat) then some (0, M) else (bnd (f_R_isVoteless n x2 M) (fun r5 M5 => if r5 = 0 then bnd (f_U_sleeps n (M 21 x1.toNat) x1 x2 (w32 ((M5 3 2) - x3)) M5) (fun r8 M8 => if r8 = 0 then ck (0 ≤ (M 21 x1.toNat) ∧ (M 21 x1.toNat) < 16) (bnd (f_C_firstOf n (M8 (110 + (M 21 x1.toNat).toNat) (2 : Int).toNat) 2 M8) (fun r12 M12 => if w32 ((M8 3 2) - x3) < r12 then f_U_weigh_88 n  x1 (M8 (110 + (M 21 x1.toNat).toNat) (2 : Int).toNat) 0 M12 else (f_U_weigh_88 n  x1 (M8 (110 + (M 21 x1.toNat).toNat) (2 : Int).toNat) 1 M12))) else (some (0, M8))) else (some (0, M5))))))
def f_U_restore (n : Nat) (x1 : Int) (M : Mm) : Rr := ck (0 ≤ x1 ∧ x1 < 40) (ck (0 ≤ x1 ∧ x1 < 40) (ck (0 ≤ x1 ∧ x1 < 40) (ck (0 ≤ x1 ∧ x1 < 40) (bnd (f_U_weigh n x1 ((mset M 39 x1.toNat (M 25 x1.toNat)) 39 x1.toNat) ((mset M 39 x1.toNat (M 25 x1.toNat)) 26 x1.toNat) (mset M 39 x1.toNat (M 25 x1.toNat))) (fun r7 M7 => ck (0 ≤ x1 ∧ x1 < 40) (some (0, (mset M7 40 x1.toNat r7))))))))
def f_U_look_128 (n : Nat) (k128 : Int → Mm → Rr) (x2 : Int) (M : Mm) : Rr := if (M 1 4) ≤ x2 then some (0, M) else (bnd (f_U_restore n x2 M) (fun r3 M3 => k128 (w32 (x2 + 1)) M3))
def lp_U_look_128 (n : Nat) : Nat → Int → Mm → Rr
  | 0, _, _ => none
  | f + 1, x2, M => f_U_look_128 n (lp_U_look_128 n f) x2 M
def f_U_look_108 (n : Nat) (k7 : Int → Mm → Rr) (x2 s1 s2 : Int) (M : Mm) : Rr := ck (0 ≤ s1 ∧ s1 < 16) (k7 (w32 (x2 + 1)) (mset M 43 s1.toNat s2))
def f_U_look_31 (n : Nat) (k7 : Int → Mm → Rr) (k31 : Int → Int → Int → Mm → Rr) (x2 x3 x4 : Int) (M : Mm) : Rr := if 5 ≤ x4 then ck (0 ≤ x3 ∧ x3 < 16) (bnd (f_C_firstOf n (M (110 + x3.toNat) (3 : Int).toNat) 3 M) (fun r4 M4 => bnd (f_R_isHolder n r4 M4) (fun r5 M5 => if r5 = 0 then f_U_look_108 n k7 x2 x3 (-5) M5 else (f_U_look_108 n k7 x2 x3 r4 M5)))) else (ck (0 ≤ x3 ∧ x3 < 16) (bnd (f_C_inForce n x3 x4 (M 3 2) M) (fun r9 M9 => ck (0 ≤ x4 ∧ x4 < 5) (k31 x2 x3 (w32 (x4 + 1)) (mset M9 (110 + x3.toNat) x4.toNat r9)))))
def lp_U_look_31 (n : Nat) (k7 : Int → Mm → Rr) : Nat → Int → Int → Int → Mm → Rr
  | 0, _, _, _, _ => none
  | f + 1, x2, x3, x4, M => f_U_look_31 n k7 (lp_U_look_31 n k7 f) x2 x3 x4 M
def f_U_look_7 (n : Nat) (k7 : Int → Mm → Rr) (x2 : Int) (M : Mm) : Rr := if (M 1 2) ≤ x2 then bnd (f_R_lookAt n (M 3 2) M) (fun r4 M4 => lp_U_look_128 n  n 0 M4) else (ck (0 ≤ x2 ∧ x2 < 7) (lp_U_look_31 n k7 n x2 (M 19 x2.toNat) 0 M))
def lp_U_look_7 (n : Nat) : Nat → Int → Mm → Rr
  | 0, _, _ => none
  | f + 1, x2, M => f_U_look_7 n (lp_U_look_7 n f) x2 M
def f_U_look (n : Nat) (x1 : Int) (M : Mm) : Rr := lp_U_look_7 n  n 0 (mset M 3 2 x1)
def f_U_sleepsNow_42 (n : Nat) (M : Mm) : Rr := some (0, M)
def f_U_sleepsNow (n : Nat) (x1 x2 : Int) (M : Mm) : Rr := ck (0 ≤ x2 ∧ x2 < 40) (if (M 25 x2.toNat) < 0 then f_U_sleepsNow_42 n   M else (ck (0 ≤ x2 ∧ x2 < 40) (bnd (f_U_sleeps n x1 x2 (M 25 x2.toNat) (w32 ((M 3 2) - (M 26 x2.toNat))) M) (fun r6 M6 => if r6 = 0 then f_U_sleepsNow_42 n   M6 else (some (1, M6))))))
def f_C_told_16 (n : Nat) (x1 x2 x3 : Int) (M : Mm) : Rr := bnd (f_C_secondOf n x1 x2 M) (fun r1 M1 => some (w32 ((w32 (1000 * x3)) + r1), M1))
def f_C_told (n : Nat) (x1 x2 : Int) (M : Mm) : Rr := bnd (f_C_firstOf n x1 x2 M) (fun r1 M1 => if x2 = 0 then f_C_told_16 n  x1 x2 r1 M1 else (if x2 ≠ 2 then some (r1, M1) else (f_C_told_16 n  x1 x2 r1 M1)))
def f_W_force_37 (n : Nat) (x1 x2 x3 x4 : Int) (M : Mm) : Rr := bnd (f_W_isDay n x3 M) (fun r1 M1 => if r1 ≠ 0 then bnd (f_U_look n x3 M1) (fun r3 M3 => if x2 ≠ 4 then ck (0 ≤ x1 ∧ x1 < 16) (ck (0 ≤ x2 ∧ x2 < 5) (bnd (f_C_told n (M3 (110 + x1.toNat) x2.toNat) x2 M3) (fun r8 M8 => some (r8, M8)))) else (bnd (f_U_sleepsNow n x1 x4 M3) (fun r9 M9 => some (r9, M9)))) else (some ((-2), M1)))
def f_W_force (n : Nat) (x1 x2 x3 x4 : Int) (M : Mm) : Rr := bnd (f_R_isFirm n x1 M) (fun r1 M1 => if r1 = 0 then some ((-1), M1) else (bnd (f_W_isWord n x2 M1) (fun r3 M3 => if r3 = 0 then some ((-1), M3) else (if x2 ≠ 4 then f_W_force_37 n  x1 x2 x3 x4 M3 else (bnd (f_R_isShare n x4 M3) (fun r6 M6 => if r6 ≠ 0 then f_W_force_37 n  x1 x2 x3 x4 M6 else (some ((-1), M6))))))))
def f_W_why (n : Nat) (x1 x2 x3 : Int) (M : Mm) : Rr := bnd (f_R_isFirm n x1 M) (fun r1 M1 => if r1 = 0 then some ((-1), M1) else (bnd (f_W_isWord n x2 M1) (fun r3 M3 => if r3 ≠ 0 then bnd (f_W_isDay n x3 M3) (fun r5 M5 => if r5 ≠ 0 then bnd (f_C_inForce n x1 x2 x3 M5) (fun r7 M7 => if 0 ≤ r7 then some (w32 ((w32 (100 * (idv r7 6))) + (irm r7 6)), M7) else (some ((-5), M7))) else (some ((-2), M5))) else (some ((-1), M3)))))
def f_U_bound_125 (n : Nat) (s1 s2 : Int) (M : Mm) : Rr := ck (0 ≤ s1 ∧ s1 < 16) (some (0, (mset M 44 s1.toNat s2)))
def f_U_bound_22 (n : Nat) (k22 : Int → Int → Int → Int → Mm → Rr) (x1 x2 x3 x4 : Int) (M : Mm) : Rr := if (M 1 1) ≤ x4 then ck (0 ≤ x1 ∧ x1 < 16) (bnd (f_C_secondOf n (M (110 + x1.toNat) (0 : Int).toNat) 0 M) (fun r5 M5 => if r5 ≤ 0 then f_U_bound_125 n  x1 0 M5 else (bnd (f_C_firstOf n (M (110 + x1.toNat) (0 : Int).toNat) 0 M5) (fun r7 M7 => ck (r5 ≠ 0) (f_U_bound_125 n  x1 (idv (w32 (r7 * x3)) r5) M7))))) else (ck (0 ≤ x1 ∧ x1 < 16) (ck (0 ≤ x1 ∧ x1 < 16) (ck (0 ≤ x4 ∧ x4 < 16) (ck (0 ≤ x4 ∧ x4 < 16) (ck (0 ≤ x1 ∧ x1 < 16) (ck (0 ≤ x4 ∧ x4 < 16) (k22 x1 x2 (w32 (x3 + ((mset M (130 + x1.toNat) x4.toNat (min (M (130 + x1.toNat) x4.toNat) x2)) (130 + x1.toNat) x4.toNat))) (w32 (x4 + 1)) (mset M (130 + x1.toNat) x4.toNat (min (M (130 + x1.toNat) x4.toNat) x2)))))))))
def lp_U_bound_22 (n : Nat) : Nat → Int → Int → Int → Int → Mm → Rr
  | 0, _, _, _, _, _ => none
  | f + 1, x1, x2, x3, x4, M => f_U_bound_22 n (lp_U_bound_22 n f) x1 x2 x3 x4 M
def f_U_bound (n : Nat) (x1 : Int) (M : Mm) : Rr := ck (0 ≤ x1 ∧ x1 < 16) (bnd (f_C_firstOf n (M (110 + x1.toNat) (1 : Int).toNat) 1 M) (fun r3 M3 => lp_U_bound_22 n  n x1 r3 0 0 M3))
def f_U_tally_97 (n : Nat) (k97 : Int → Mm → Rr) (x1 : Int) (M : Mm) : Rr := if (M 1 2) ≤ x1 then some (0, M) else (ck (0 ≤ x1 ∧ x1 < 7) (bnd (f_U_bound n (M 19 x1.toNat) M) (fun r5 M5 => k97 (w32 (x1 + 1)) M5)))
def lp_U_tally_97 (n : Nat) : Nat → Int → Mm → Rr
  | 0, _, _ => none
  | f + 1, x1, M => f_U_tally_97 n (lp_U_tally_97 n f) x1 M
def f_U_tally_89 (n : Nat) (k39 : Int → Mm → Rr) (x1 : Int) (M : Mm) : Rr := k39 (w32 (x1 + 1)) M
def f_U_tally_39 (n : Nat) (k39 : Int → Mm → Rr) (x1 : Int) (M : Mm) : Rr := if (M 1 4) ≤ x1 then lp_U_tally_97 n  n 0 M else (ck (0 ≤ x1 ∧ x1 < 40) (if (M 39 x1.toNat) < 0 then f_U_tally_89 n k39 x1 M else (ck (0 ≤ x1 ∧ x1 < 40) (ck (0 ≤ (M 21 x1.toNat) ∧ (M 21 x1.toNat) < 16) (ck (0 ≤ x1 ∧ x1 < 40) (ck (0 ≤ (M 39 x1.toNat) ∧ (M 39 x1.toNat) < 16) (ck (0 ≤ x1 ∧ x1 < 40) (ck (0 ≤ (M 39 x1.toNat) ∧ (M 39 x1.toNat) < 16) (f_U_tally_89 n k39 x1 (mset M (130 + (M 21 x1.toNat).toNat) (M 39 x1.toNat).toNat (w32 ((M (130 + (M 21 x1.toNat).toNat) (M 39 x1.toNat).toNat) + (M 40 x1.toNat)))))))))))))
def lp_U_tally_39 (n : Nat) : Nat → Int → Mm → Rr
  | 0, _, _ => none
  | f + 1, x1, M => f_U_tally_39 n (lp_U_tally_39 n f) x1 M
def f_U_tally_2 (n : Nat) (k2 : Int → Mm → Rr) (x1 : Int) (M : Mm) : Rr := if (M 1 2) ≤ x1 then lp_U_tally_39 n  n 0 M else (ck (0 ≤ x1 ∧ x1 < 7) (ck (0 ≤ (M 19 x1.toNat) ∧ (M 19 x1.toNat) < 16) (k2 (w32 (x1 + 1)) (mfil M (130 + (M 19 x1.toNat).toNat) 16 0))))
def lp_U_tally_2 (n : Nat) : Nat → Int → Mm → Rr
  | 0, _, _ => none
  | f + 1, x1, M => f_U_tally_2 n (lp_U_tally_2 n f) x1 M
def f_U_tally (n : Nat) (M : Mm) : Rr := lp_U_tally_2 n  n 0 M
def f_W_votes (n : Nat) (x1 x2 x3 : Int) (M : Mm) : Rr := bnd (f_R_isFirm n x1 M) (fun r1 M1 => if r1 = 0 then some ((-1), M1) else (bnd (f_R_isHolder n x2 M1) (fun r3 M3 => if r3 = 0 then some ((-1), M3) else (bnd (f_W_isDay n x3 M3) (fun r5 M5 => if r5 ≠ 0 then bnd (f_U_look n x3 M5) (fun r7 M7 => bnd (f_U_tally n  M7) (fun r8 M8 => ck (0 ≤ x1 ∧ x1 < 16) (ck (0 ≤ x2 ∧ x2 < 16) (some ((M8 (130 + x1.toNat) x2.toNat), M8))))) else (some ((-1), M5)))))))
def f_R_isSet (n : Nat) (x1 : Int) (M : Mm) : Rr := if isu x1 (M 1 1) ≠ 0 then some (0, M) else (some (1, M))
def f_U_carriedBySet_86 (n : Nat) (M : Mm) : Rr := some (0, M)
def f_U_carriedBySet_41 (n : Nat) (k5 : Int → Int → Int → Int → Mm → Rr) (x1 x2 x4 s0 s1 : Int) (M : Mm) : Rr := k5 x1 x2 (w32 (s0 + s1)) (w32 (x4 + 1)) M
def f_U_carriedBySet_5 (n : Nat) (k5 : Int → Int → Int → Int → Mm → Rr) (x1 x2 x3 x4 : Int) (M : Mm) : Rr := if (M 1 1) ≤ x4 then ck (0 ≤ x1 ∧ x1 < 16) (if x3 ≤ (M 44 x1.toNat) then f_U_carriedBySet_86 n   M else (ck (0 ≤ x1 ∧ x1 < 16) (if (M 43 x1.toNat) < 0 then some (1, M) else (ck (0 ≤ x1 ∧ x1 < 16) (if ian (isr x2 (M 43 x1.toNat)) 1 ≠ 1 then f_U_carriedBySet_86 n   M else (some (1, M))))))) else (if ian (isr x2 x4) 1 ≠ 1 then f_U_carriedBySet_41 n k5 x1 x2 x4 x3 0 M else (ck (0 ≤ x1 ∧ x1 < 16) (ck (0 ≤ x4 ∧ x4 < 16) (f_U_carriedBySet_41 n k5 x1 x2 x4 x3 (M (130 + x1.toNat) x4.toNat) M))))
def lp_U_carriedBySet_5 (n : Nat) : Nat → Int → Int → Int → Int → Mm → Rr
  | 0, _, _, _, _, _ => none
  | f + 1, x1, x2, x3, x4, M => f_U_carriedBySet_5 n (lp_U_carriedBySet_5 n f) x1 x2 x3 x4 M
def f_U_carriedBySet (n : Nat) (x1 x2 : Int) (M : Mm) : Rr := lp_U_carriedBySet_5 n  n x1 x2 0 0 M
def f_W_carry (n : Nat) (x1 x2 x3 : Int) (M : Mm) : Rr := bnd (f_R_isFirm n x1 M) (fun r1 M1 => if r1 = 0 then some ((-1), M1) else (bnd (f_W_isDay n x3 M1) (fun r3 M3 => if r3 ≠ 0 then bnd (f_R_isSet n x2 M3) (fun r5 M5 => if r5 ≠ 0 then bnd (f_U_look n x3 M5) (fun r7 M7 => bnd (f_U_tally n  M7) (fun r8 M8 => bnd (f_U_carriedBySet n x1 x2 M8) (fun r9 M9 => if r9 = 0 then some (0, M9) else (some (1, M9))))) else (some ((-2), M5))) else (some ((-1), M3)))))
def f_U_clear_134 (n : Nat) (k57 : Int → Mm → Rr) (k90 : Int → Int → Int → Mm → Rr) (x1 x2 x3 : Int) (M : Mm) : Rr := k90 x1 x2 (w32 (x3 + 1)) M
def f_U_clear_90 (n : Nat) (k57 : Int → Mm → Rr) (k90 : Int → Int → Int → Mm → Rr) (x1 x2 x3 : Int) (M : Mm) : Rr := if (M 1 1) ≤ x3 then k57 (w32 (x1 + 1)) M else (ck (0 ≤ x3 ∧ x3 < 16) (if (M 45 x3.toNat) < 0 then f_U_clear_134 n k57 k90 x1 x2 x3 M else (ck (0 ≤ x2 ∧ x2 < 16) (ck (0 ≤ x3 ∧ x3 < 16) (ck (0 ≤ (M 45 x3.toNat) ∧ (M 45 x3.toNat) < 16) (ck (0 ≤ x2 ∧ x2 < 16) (ck (0 ≤ x3 ∧ x3 < 16) (ck (0 ≤ (M 45 x3.toNat) ∧ (M 45 x3.toNat) < 16) (f_U_clear_134 n k57 k90 x1 x2 x3 (mset M (150 + x2.toNat) (M 45 x3.toNat).toNat (w32 ((M (150 + x2.toNat) (M 45 x3.toNat).toNat) + (M (130 + x2.toNat) x3.toNat)))))))))))))
def lp_U_clear_90 (n : Nat) (k57 : Int → Mm → Rr) : Nat → Int → Int → Int → Mm → Rr
  | 0, _, _, _, _ => none
  | f + 1, x1, x2, x3, M => f_U_clear_90 n k57 (lp_U_clear_90 n k57 f) x1 x2 x3 M
def f_U_clear_57 (n : Nat) (k57 : Int → Mm → Rr) (x1 : Int) (M : Mm) : Rr := if (M 1 2) ≤ x1 then some (0, M) else (ck (0 ≤ x1 ∧ x1 < 7) (ck (0 ≤ (M 19 x1.toNat) ∧ (M 19 x1.toNat) < 16) (lp_U_clear_90 n k57 n x1 (M 19 x1.toNat) 0 (mfil M (150 + (M 19 x1.toNat).toNat) 16 0))))
def lp_U_clear_57 (n : Nat) : Nat → Int → Mm → Rr
  | 0, _, _ => none
  | f + 1, x1, M => f_U_clear_57 n (lp_U_clear_57 n f) x1 M
def f_U_clear_48 (n : Nat) (k7 : Int → Mm → Rr) (x1 s1 s2 : Int) (M : Mm) : Rr := ck (0 ≤ s1 ∧ s1 < 16) (k7 (w32 (x1 + 1)) (mset M 45 s1.toNat s2))
def f_U_clear_7 (n : Nat) (k7 : Int → Mm → Rr) (x1 : Int) (M : Mm) : Rr := if (M 1 1) ≤ x1 then lp_U_clear_57 n  n 0 M else (bnd (f_R_isFirm n x1 M) (fun r3 M3 => if r3 = 0 then ck (0 ≤ x1 ∧ x1 < 16) (f_U_clear_48 n k7 x1 x1 (M3 18 x1.toNat) M3) else (f_U_clear_48 n k7 x1 x1 (-5) M3)))
def lp_U_clear_7 (n : Nat) : Nat → Int → Mm → Rr
  | 0, _, _ => none
  | f + 1, x1, M => f_U_clear_7 n (lp_U_clear_7 n f) x1 M
def f_U_clear (n : Nat) (M : Mm) : Rr := lp_U_clear_7 n  n 0 (mset M 3 13 0)
def f_U_carriedByGroup_45 (n : Nat) (M : Mm) : Rr := some (0, M)
def f_U_carriedByGroup (n : Nat) (x1 x2 : Int) (M : Mm) : Rr := ck (0 ≤ x1 ∧ x1 < 16) (ck (0 ≤ x2 ∧ x2 < 16) (ck (0 ≤ x1 ∧ x1 < 16) (if (M (150 + x1.toNat) x2.toNat) ≤ (M 44 x1.toNat) then f_U_carriedByGroup_45 n   M else (ck (0 ≤ x1 ∧ x1 < 16) (if (M 43 x1.toNat) < 0 then some (1, M) else (ck (0 ≤ x1 ∧ x1 < 16) (ck (0 ≤ (M 43 x1.toNat) ∧ (M 43 x1.toNat) < 16) (if (M 45 (M 43 x1.toNat).toNat) ≠ x2 then f_U_carriedByGroup_45 n   M else (some (1, M))))))))))
def f_U_leastRuler_2 (n : Nat) (k2 : Int → Int → Mm → Rr) (x1 x2 : Int) (M : Mm) : Rr := if (M 1 3) ≤ x2 then some ((-5), M) else (ck (0 ≤ x2 ∧ x2 < 16) (bnd (f_U_carriedByGroup n x1 (M 20 x2.toNat) M) (fun r5 M5 => if r5 = 0 then k2 x1 (w32 (x2 + 1)) M5 else (ck (0 ≤ x2 ∧ x2 < 16) (some ((M5 20 x2.toNat), M5))))))
def lp_U_leastRuler_2 (n : Nat) : Nat → Int → Int → Mm → Rr
  | 0, _, _, _ => none
  | f + 1, x1, x2, M => f_U_leastRuler_2 n (lp_U_leastRuler_2 n f) x1 x2 M
def f_U_leastRuler (n : Nat) (x1 : Int) (M : Mm) : Rr := lp_U_leastRuler_2 n  n x1 0 M
def f_U_crown_9 (n : Nat) (k9 : Int → Int → Int → Mm → Rr) (x1 x2 x3 : Int) (M : Mm) : Rr := if (M 1 2) ≤ x3 then if 7 ≤ (M 3 13) then some (0, M) else (ck (0 ≤ (M 3 13) ∧ (M 3 13) < 7) (some (0, (mset (mset M 47 (M 3 13).toNat x1) 3 13 (w32 (((mset M 47 (M 3 13).toNat x1) 3 13) + 1)))))) else (ck (0 ≤ x3 ∧ x3 < 7) (ck (0 ≤ (M 19 x3.toNat) ∧ (M 19 x3.toNat) < 16) (ck (0 ≤ x2 ∧ x2 < 16) (ck (0 ≤ (M 19 x3.toNat) ∧ (M 19 x3.toNat) < 16) (ck (0 ≤ x1 ∧ x1 < 16) (ck (0 ≤ x2 ∧ x2 < 16) (k9 x1 x2 (w32 (x3 + 1)) (mset M (150 + (M 19 x3.toNat).toNat) x2.toNat (w32 ((M (150 + (M 19 x3.toNat).toNat) x2.toNat) + (M (130 + (M 19 x3.toNat).toNat) x1.toNat)))))))))))
def lp_U_crown_9 (n : Nat) : Nat → Int → Int → Int → Mm → Rr
  | 0, _, _, _, _ => none
  | f + 1, x1, x2, x3, M => f_U_crown_9 n (lp_U_crown_9 n f) x1 x2 x3 M
def f_U_crown (n : Nat) (x1 x2 : Int) (M : Mm) : Rr := ck (0 ≤ x1 ∧ x1 < 16) (lp_U_crown_9 n  n x1 x2 0 (mset M 45 x1.toNat x2))
def f_U_crownsInRound_60 (n : Nat) (k4 : Int → Int → Mm → Rr) (x1 x2 : Int) (M : Mm) : Rr := k4 x1 (w32 (x2 + 1)) M
def f_U_crownsInRound_44 (n : Nat) (k4 : Int → Int → Mm → Rr) (x1 x2 x3 s0 : Int) (M : Mm) : Rr := if s0 < 0 then f_U_crownsInRound_60 n k4 x1 x2 M else (bnd (f_U_crown n x3 s0 M) (fun r2 M2 => f_U_crownsInRound_60 n k4 1 x2 M2))
def f_U_crownsInRound_4 (n : Nat) (k4 : Int → Int → Mm → Rr) (x1 x2 : Int) (M : Mm) : Rr := if (M 1 2) ≤ x2 then some (x1, M) else (ck (0 ≤ x2 ∧ x2 < 7) (ck (0 ≤ (M 19 x2.toNat) ∧ (M 19 x2.toNat) < 16) (if 0 ≤ (M 45 (M 19 x2.toNat).toNat) then f_U_crownsInRound_44 n k4 x1 x2 (M 19 x2.toNat) (-5) M else (bnd (f_U_leastRuler n (M 19 x2.toNat) M) (fun r7 M7 => f_U_crownsInRound_44 n k4 x1 x2 (M 19 x2.toNat) r7 M7)))))
def lp_U_crownsInRound_4 (n : Nat) : Nat → Int → Int → Mm → Rr
  | 0, _, _, _ => none
  | f + 1, x1, x2, M => f_U_crownsInRound_4 n (lp_U_crownsInRound_4 n f) x1 x2 M
def f_U_crownsInRound (n : Nat) (M : Mm) : Rr := lp_U_crownsInRound_4 n  n 0 0 M
def f_U_least_12 (n : Nat) (k12 : Int → Int → Mm → Rr) (x1 x2 : Int) (M : Mm) : Rr := if 7 < x2 then some (0, M) else (if x1 = 0 then some (0, M) else (bnd (f_U_crownsInRound n  M) (fun r3 M3 => k12 r3 (w32 (x2 + 1)) M3)))
def lp_U_least_12 (n : Nat) : Nat → Int → Int → Mm → Rr
  | 0, _, _, _ => none
  | f + 1, x1, x2, M => f_U_least_12 n (lp_U_least_12 n f) x1 x2 M
def f_U_least (n : Nat) (M : Mm) : Rr := bnd (f_U_tally n  M) (fun r1 M1 => bnd (f_U_clear n  M1) (fun r2 M2 => lp_U_least_12 n  n 1 0 M2))
def f_W_ruler (n : Nat) (x1 x2 : Int) (M : Mm) : Rr := bnd (f_R_isFirm n x1 M) (fun r1 M1 => if r1 = 0 then some ((-1), M1) else (bnd (f_W_isDay n x2 M1) (fun r3 M3 => if r3 ≠ 0 then bnd (f_U_look n x2 M3) (fun r5 M5 => bnd (f_U_least n  M5) (fun r6 M6 => ck (0 ≤ x1 ∧ x1 < 16) (some ((M6 45 x1.toNat), M6)))) else (some ((-1), M3)))))
def f_W_step (n : Nat) (x1 x2 : Int) (M : Mm) : Rr := bnd (f_W_isDay n x1 M) (fun r1 M1 => if r1 = 0 then some ((-1), M1) else (if (-1) ≤ x2 then bnd (f_U_look n x1 M1) (fun r4 M4 => bnd (f_U_least n  M4) (fun r5 M5 => if x2 ≠ (-1) then if (M5 3 13) ≤ x2 then some ((-1), M5) else (ck (0 ≤ x2 ∧ x2 < 7) (some ((M5 47 x2.toNat), M5))) else (some ((M5 3 13), M5)))) else (some ((-1), M1))))
def f_S_setsWithWhich_183 (n : Nat) (k40 : Int → Int → Int → Int → Int → Int → Mm → Rr) (x1 x2 x3 x4 x6 s0 s1 : Int) (M : Mm) : Rr := k40 x1 x2 x3 x4 (ior s0 s1) (w32 (x6 + 1)) M
def f_S_setsWithWhich_182 (n : Nat) (k40 : Int → Int → Int → Int → Int → Int → Mm → Rr) (x1 x2 x3 x4 x6 s0 : Int) (M : Mm) : Rr := f_S_setsWithWhich_183 n k40 x1 x2 x3 x4 x6 s0 0 M
def f_S_setsWithWhich_148 (n : Nat) (k40 : Int → Int → Int → Int → Int → Int → Mm → Rr) (k74 : Int → Int → Int → Int → Int → Int → Int → Int → Int → Mm → Rr) (x1 x2 x3 x4 x5 x6 x7 x8 x9 : Int) (M : Mm) : Rr := k74 x1 x2 x3 x4 x5 x6 x7 x8 (w32 (x9 + 1)) M
def f_S_setsWithWhich_146 (n : Nat) (k40 : Int → Int → Int → Int → Int → Int → Mm → Rr) (k74 : Int → Int → Int → Int → Int → Int → Int → Int → Int → Mm → Rr) (x1 x2 x3 x4 x5 x6 x7 x9 s0 : Int) (M : Mm) : Rr := f_S_setsWithWhich_148 n k40 k74 x1 x2 x3 x4 x5 x6 x7 s0 x9 M
def f_S_setsWithWhich_74 (n : Nat) (k40 : Int → Int → Int → Int → Int → Int → Mm → Rr) (k74 : Int → Int → Int → Int → Int → Int → Int → Int → Int → Mm → Rr) (x1 x2 x3 x4 x5 x6 x7 x8 x9 : Int) (M : Mm) : Rr := if (M 1 2) ≤ x9 then ck (0 ≤ x1 ∧ x1 < 16) (if x7 ≤ (M 44 x1.toNat) then f_S_setsWithWhich_182 n k40 x1 x2 x3 x4 x6 x5 M else (if x8 = 0 then f_S_setsWithWhich_182 n k40 x1 x2 x3 x4 x6 x5 M else (f_S_setsWithWhich_183 n k40 x1 x2 x3 x4 x6 x5 (ish 1 x6) M))) else (if ian (isr x6 x9) 1 ≠ 1 then f_S_setsWithWhich_148 n k40 k74 x1 x2 x3 x4 x5 x6 x7 x8 x9 M else (ck (0 ≤ x1 ∧ x1 < 16) (ck (0 ≤ x9 ∧ x9 < 7) (ck (0 ≤ (M 19 x9.toNat) ∧ (M 19 x9.toNat) < 16) (if x8 ≠ 0 then f_S_setsWithWhich_146 n k40 k74 x1 x2 x3 x4 x5 x6 (w32 (x7 + (M (130 + x1.toNat) (M 19 x9.toNat).toNat))) x9 1 M else (ck (0 ≤ x9 ∧ x9 < 7) (if (M 19 x9.toNat) ≠ x3 then f_S_setsWithWhich_146 n k40 k74 x1 x2 x3 x4 x5 x6 (w32 (x7 + (M (130 + x1.toNat) (M 19 x9.toNat).toNat))) x9 0 M else (f_S_setsWithWhich_146 n k40 k74 x1 x2 x3 x4 x5 x6 (w32 (x7 + (M (130 + x1.toNat) (M 19 x9.toNat).toNat))) x9 1 M))))))))
def lp_S_setsWithWhich_74 (n : Nat) (k40 : Int → Int → Int → Int → Int → Int → Mm → Rr) : Nat → Int → Int → Int → Int → Int → Int → Int → Int → Int → Mm → Rr
  | 0, _, _, _, _, _, _, _, _, _, _ => none
  | f + 1, x1, x2, x3, x4, x5, x6, x7, x8, x9, M => f_S_setsWithWhich_74 n k40 (lp_S_setsWithWhich_74 n k40 f) x1 x2 x3 x4 x5 x6 x7 x8 x9 M
def f_S_setsWithWhich_40 (n : Nat) (k40 : Int → Int → Int → Int → Int → Int → Mm → Rr) (x1 x2 x3 x4 x5 x6 : Int) (M : Mm) : Rr := if ish 1 (M 1 2) ≤ x6 then some (x5, M) else (ck (0 ≤ x1 ∧ x1 < 16) (ck (0 ≤ x2 ∧ x2 < 16) (lp_S_setsWithWhich_74 n k40 n x1 x2 x3 x4 x5 x6 (M (150 + x1.toNat) x2.toNat) x4 0 M)))
def lp_S_setsWithWhich_40 (n : Nat) : Nat → Int → Int → Int → Int → Int → Int → Mm → Rr
  | 0, _, _, _, _, _, _, _ => none
  | f + 1, x1, x2, x3, x4, x5, x6, M => f_S_setsWithWhich_40 n (lp_S_setsWithWhich_40 n f) x1 x2 x3 x4 x5 x6 M
def f_S_setsWithWhich_32 (n : Nat) (x1 x2 x3 s0 : Int) (M : Mm) : Rr := lp_S_setsWithWhich_40 n  n x1 x2 x3 s0 0 0 M
def f_S_setsWithWhich (n : Nat) (x1 x2 : Int) (M : Mm) : Rr := ck (0 ≤ x1 ∧ x1 < 16) (if (M 43 x1.toNat) < 0 then f_S_setsWithWhich_32 n  x1 x2 (M 43 x1.toNat) 1 M else (ck (0 ≤ (M 43 x1.toNat) ∧ (M 43 x1.toNat) < 16) (if (M 45 (M 43 x1.toNat).toNat) ≠ x2 then f_S_setsWithWhich_32 n  x1 x2 (M 43 x1.toNat) 0 M else (f_S_setsWithWhich_32 n  x1 x2 (M 43 x1.toNat) 1 M))))
def f_S_listCarrying_86 (n : Nat) (k16 : Int → Mm → Rr) (x1 : Int) (M : Mm) : Rr := k16 (w32 (x1 + 1)) M
def f_S_listCarrying_34 (n : Nat) (k16 : Int → Mm → Rr) (k34 : Int → Int → Mm → Rr) (x1 x2 : Int) (M : Mm) : Rr := if (M 1 3) ≤ x2 then f_S_listCarrying_86 n k16 x1 M else (if 4 ≤ x2 then f_S_listCarrying_86 n k16 x1 M else (ck (0 ≤ x1 ∧ x1 < 5) (ck (0 ≤ x1 ∧ x1 < 7) (ck (0 ≤ x2 ∧ x2 < 16) (bnd (f_S_setsWithWhich n (M 19 x1.toNat) (M 20 x2.toNat) M) (fun r8 M8 => ck (0 ≤ x2 ∧ x2 < 4) (k34 x1 (w32 (x2 + 1)) (mset M8 (170 + x1.toNat) x2.toNat r8))))))))
def lp_S_listCarrying_34 (n : Nat) (k16 : Int → Mm → Rr) : Nat → Int → Int → Mm → Rr
  | 0, _, _, _ => none
  | f + 1, x1, x2, M => f_S_listCarrying_34 n k16 (lp_S_listCarrying_34 n k16 f) x1 x2 M
def f_S_listCarrying_16 (n : Nat) (k16 : Int → Mm → Rr) (x1 : Int) (M : Mm) : Rr := if (M 1 2) ≤ x1 then some (0, M) else (if 5 ≤ x1 then some (0, M) else (lp_S_listCarrying_34 n k16 n x1 0 M))
def lp_S_listCarrying_16 (n : Nat) : Nat → Int → Mm → Rr
  | 0, _, _ => none
  | f + 1, x1, M => f_S_listCarrying_16 n (lp_S_listCarrying_16 n f) x1 M
def f_S_listCarrying (n : Nat) (M : Mm) : Rr := bnd (f_U_tally n  M) (fun r1 M1 => bnd (f_U_clear n  M1) (fun r2 M2 => lp_S_listCarrying_16 n  n 0 M2))
def f_S_setRow_24 (n : Nat) (k24 : Int → Int → Mm → Rr) (x2 x3 : Int) (M : Mm) : Rr := if x3 < 0 then some (0, M) else (ck (w32 ((min (M 1 3) 4) + 1) ≠ 0) (ck (0 ≤ x3 ∧ x3 < 5) (ck (w32 ((min ((mset M 50 x3.toNat (irm x2 (w32 ((min (M 1 3) 4) + 1)))) 1 3) 4) + 1) ≠ 0) (ck (0 ≤ x3 ∧ x3 < 5) (ck (0 ≤ ((mset M 50 x3.toNat (irm x2 (w32 ((min (M 1 3) 4) + 1)))) 50 x3.toNat) ∧ ((mset M 50 x3.toNat (irm x2 (w32 ((min (M 1 3) 4) + 1)))) 50 x3.toNat) < 5) (ck (0 ≤ ((mset M 50 x3.toNat (irm x2 (w32 ((min (M 1 3) 4) + 1)))) 50 x3.toNat) ∧ ((mset M 50 x3.toNat (irm x2 (w32 ((min (M 1 3) 4) + 1)))) 50 x3.toNat) < 5) (k24 (idv x2 (w32 ((min ((mset M 50 x3.toNat (irm x2 (w32 ((min (M 1 3) 4) + 1)))) 1 3) 4) + 1))) (w32 (x3 + (-1))) (mset (mset M 50 x3.toNat (irm x2 (w32 ((min (M 1 3) 4) + 1)))) 51 ((mset M 50 x3.toNat (irm x2 (w32 ((min (M 1 3) 4) + 1)))) 50 x3.toNat).toNat (ior ((mset M 50 x3.toNat (irm x2 (w32 ((min (M 1 3) 4) + 1)))) 51 ((mset M 50 x3.toNat (irm x2 (w32 ((min (M 1 3) 4) + 1)))) 50 x3.toNat).toNat) (ish 1 x3))))))))))
def lp_S_setRow_24 (n : Nat) : Nat → Int → Int → Mm → Rr
  | 0, _, _, _ => none
  | f + 1, x2, x3, M => f_S_setRow_24 n (lp_S_setRow_24 n f) x2 x3 M
def f_S_setRow (n : Nat) (x1 : Int) (M : Mm) : Rr := lp_S_setRow_24 n  n x1 (w32 ((min ((mfil M 51 5 0) 1 2) 5) - 1)) (mfil M 51 5 0)
def f_S_carriesInRow (n : Nat) (x1 x2 : Int) (M : Mm) : Rr := ck (0 ≤ x1 ∧ x1 < 5) (ck (0 ≤ x2 ∧ x2 < 4) (ck (0 ≤ w32 (x2 + 1) ∧ w32 (x2 + 1) < 5) (if ian (isr (M (170 + x1.toNat) x2.toNat) (M 51 (w32 (x2 + 1)).toNat)) 1 ≠ 1 then some (0, M) else (some (1, M)))))
def f_S_isCarriedInRow_2 (n : Nat) (k2 : Int → Int → Mm → Rr) (x1 x2 : Int) (M : Mm) : Rr := if (M 1 3) ≤ x2 then some (0, M) else (if 4 ≤ x2 then some (0, M) else (bnd (f_S_carriesInRow n x1 x2 M) (fun r4 M4 => if r4 = 0 then k2 x1 (w32 (x2 + 1)) M4 else (some (1, M4)))))
def lp_S_isCarriedInRow_2 (n : Nat) : Nat → Int → Int → Mm → Rr
  | 0, _, _, _ => none
  | f + 1, x1, x2, M => f_S_isCarriedInRow_2 n (lp_S_isCarriedInRow_2 n f) x1 x2 M
def f_S_isCarriedInRow (n : Nat) (x1 : Int) (M : Mm) : Rr := lp_S_isCarriedInRow_2 n  n x1 0 M
def f_S_rowFits_56 (n : Nat) (k2 : Int → Mm → Rr) (x1 : Int) (M : Mm) : Rr := k2 (w32 (x1 + 1)) M
def f_S_rowFits_2 (n : Nat) (k2 : Int → Mm → Rr) (x1 : Int) (M : Mm) : Rr := if (M 1 2) ≤ x1 then some (1, M) else (if 5 ≤ x1 then some (1, M) else (ck (0 ≤ x1 ∧ x1 < 5) (if (M 50 x1.toNat) ≤ 0 then bnd (f_S_isCarriedInRow n x1 M) (fun r7 M7 => if r7 = 0 then f_S_rowFits_56 n k2 x1 M7 else (some (0, M7))) else (ck (0 ≤ x1 ∧ x1 < 5) (bnd (f_S_carriesInRow n x1 (w32 ((M 50 x1.toNat) - 1)) M) (fun r11 M11 => if r11 ≠ 0 then f_S_rowFits_56 n k2 x1 M11 else (some (0, M11))))))))
def lp_S_rowFits_2 (n : Nat) : Nat → Int → Mm → Rr
  | 0, _, _ => none
  | f + 1, x1, M => f_S_rowFits_2 n (lp_S_rowFits_2 n f) x1 M
def f_S_rowFits (n : Nat) (M : Mm) : Rr := lp_S_rowFits_2 n  n 0 M
def f_S_rulerInRow_57 (n : Nat) (k2 : Int → Int → Mm → Rr) (x1 x2 : Int) (M : Mm) : Rr := k2 x1 (w32 (x2 + 1)) M
def f_S_rulerInRow_2 (n : Nat) (k2 : Int → Int → Mm → Rr) (x1 x2 : Int) (M : Mm) : Rr := if (M 1 2) ≤ x2 then some ((-5), M) else (if 5 ≤ x2 then some ((-5), M) else (ck (0 ≤ x2 ∧ x2 < 7) (if (M 19 x2.toNat) ≠ x1 then f_S_rulerInRow_57 n k2 x1 x2 M else (ck (0 ≤ x2 ∧ x2 < 5) (if (M 50 x2.toNat) ≤ 0 then f_S_rulerInRow_57 n k2 x1 x2 M else (ck (0 ≤ x2 ∧ x2 < 5) (ck (0 ≤ w32 ((M 50 x2.toNat) - 1) ∧ w32 ((M 50 x2.toNat) - 1) < 16) (some ((M 20 (w32 ((M 50 x2.toNat) - 1)).toNat), M)))))))))
def lp_S_rulerInRow_2 (n : Nat) : Nat → Int → Int → Mm → Rr
  | 0, _, _, _ => none
  | f + 1, x1, x2, M => f_S_rulerInRow_2 n (lp_S_rulerInRow_2 n f) x1 x2 M
def f_S_rulerInRow (n : Nat) (x1 : Int) (M : Mm) : Rr := lp_S_rulerInRow_2 n  n x1 0 M
def f_S_fitting_79 (n : Nat) (k45 : Int → Int → Int → Int → Int → Mm → Rr) (x1 x2 x3 x4 x5 : Int) (M : Mm) : Rr := k45 x1 x2 x3 x4 (w32 (x5 + 1)) M
def f_S_fitting_45 (n : Nat) (k45 : Int → Int → Int → Int → Int → Mm → Rr) (x1 x2 x3 x4 x5 : Int) (M : Mm) : Rr := if x3 ≤ x5 then if x1 ≠ (-1) then some ((-1), M) else (some (x4, M)) else (bnd (f_S_setRow n x5 M) (fun r3 M3 => bnd (f_S_rowFits n  M3) (fun r4 M4 => if r4 = 0 then f_S_fitting_79 n k45 x1 x2 x3 x4 x5 M4 else (if x4 ≠ x1 then f_S_fitting_79 n k45 x1 x2 x3 (w32 (x4 + 1)) x5 M4 else (bnd (f_S_rulerInRow n x2 M4) (fun r7 M7 => some (r7, M7)))))))
def lp_S_fitting_45 (n : Nat) : Nat → Int → Int → Int → Int → Int → Mm → Rr
  | 0, _, _, _, _, _, _ => none
  | f + 1, x1, x2, x3, x4, x5, M => f_S_fitting_45 n (lp_S_fitting_45 n f) x1 x2 x3 x4 x5 M
def f_S_fitting_9 (n : Nat) (k9 : Int → Int → Int → Int → Mm → Rr) (x1 x2 x3 x4 : Int) (M : Mm) : Rr := if (M 1 2) ≤ x4 then lp_S_fitting_45 n  n x1 x2 x3 0 0 M else (k9 x1 x2 (w32 (x3 * (w32 ((M 1 3) + 1)))) (w32 (x4 + 1)) M)
def lp_S_fitting_9 (n : Nat) : Nat → Int → Int → Int → Int → Mm → Rr
  | 0, _, _, _, _, _ => none
  | f + 1, x1, x2, x3, x4, M => f_S_fitting_9 n (lp_S_fitting_9 n f) x1 x2 x3 x4 M
def f_S_fitting (n : Nat) (x1 x2 : Int) (M : Mm) : Rr := bnd (f_S_listCarrying n  M) (fun r1 M1 => lp_S_fitting_9 n  n x1 x2 1 0 M1)
def f_W_all (n : Nat) (x1 x2 x3 : Int) (M : Mm) : Rr := bnd (f_W_isDay n x1 M) (fun r1 M1 => if r1 = 0 then some ((-1), M1) else (bnd (f_R_isFirm n x3 M1) (fun r3 M3 => if r3 = 0 then some ((-1), M3) else (if (-1) ≤ x2 then if 5 < (M3 1 2) then some ((-9), M3) else (if (M3 1 3) ≤ 4 then bnd (f_U_look n x1 M3) (fun r10 M10 => bnd (f_S_fitting n x2 x3 M10) (fun r11 M11 => some (r11, M11))) else (some ((-9), M3))) else (some ((-1), M3))))))
def f_W_isTape_14 (n : Nat) (M : Mm) : Rr := some (0, M)
def f_W_isTape (n : Nat) (x0 : Int) (M : Mm) : Rr := if x0 < 0 then f_W_isTape_14 n   M else (if 6 ≤ x0 then f_W_isTape_14 n   M else (some (1, M)))
def f_W_hasPlaces_24 (n : Nat) (M : Mm) : Rr := some (0, M)
def f_W_hasPlaces (n : Nat) (x1 x2 x3 : Int) (M : Mm) : Rr := if x2 < 0 then f_W_hasPlaces_24 n   M else (if x3 < 0 then f_W_hasPlaces_24 n   M else (ck (0 ≤ x1 ∧ x1 < 6) (if w32 ((M 14 x1.toNat) - x3) < x2 then f_W_hasPlaces_24 n   M else (some (1, M)))))
def f_R_isPerson_32 (n : Nat) (M : Mm) : Rr := some (0, M)
def f_R_isPerson (n : Nat) (x1 : Int) (M : Mm) : Rr := bnd (f_R_isHolder n x1 M) (fun r1 M1 => if r1 = 0 then f_R_isPerson_32 n   M1 else (ck (0 ≤ x1 ∧ x1 < 16) (if (M1 17 x1.toNat) = 2 then some (1, M1) else (ck (0 ≤ x1 ∧ x1 < 16) (if (M1 17 x1.toNat) ≠ 3 then f_R_isPerson_32 n   M1 else (some (1, M1)))))))
def f_R_isRuler_22 (n : Nat) (M : Mm) : Rr := some (0, M)
def f_R_isRuler (n : Nat) (x1 : Int) (M : Mm) : Rr := bnd (f_R_isPerson n x1 M) (fun r1 M1 => if r1 = 0 then f_R_isRuler_22 n   M1 else (ck (0 ≤ x1 ∧ x1 < 16) (if (M1 18 x1.toNat) ≠ x1 then f_R_isRuler_22 n   M1 else (some (1, M1)))))
def f_U_tells (n : Nat) (x1 x2 : Int) (M : Mm) : Rr := bnd (f_R_isFirm n x1 M) (fun r1 M1 => if r1 = 0 then some (0, M1) else (bnd (f_R_isRuler n x2 M1) (fun r3 M3 => if r3 ≠ 0 then ck (0 ≤ x1 ∧ x1 < 16) (if 0 ≤ (M3 45 x1.toNat) then some (0, M3) else (bnd (f_U_carriedByGroup n x1 x2 M3) (fun r8 M8 => if r8 ≠ 0 then bnd (f_U_crown n x1 x2 M8) (fun r10 M10 => some (1, M10)) else (some (0, M8))))) else (some (0, M3)))))
def f_W_goodPairs_34 (n : Nat) (k34 : Int → Int → Int → Int → Int → Mm → Rr) (x1 x2 x3 x4 x5 : Int) (M : Mm) : Rr := if x3 ≤ x5 then some (x4, M) else (bnd (f_W_hasPlaces n x1 (w32 (x2 + (w32 (2 * x5)))) 2 M) (fun r2 M2 => if r2 ≠ 0 then ck (0 ≤ x1 ∧ x1 < 6) (ck (0 ≤ w32 (x2 + (w32 (2 * x5))) ∧ w32 (x2 + (w32 (2 * x5))) < 60) (ck (0 ≤ x1 ∧ x1 < 6) (ck (0 ≤ w32 ((w32 (x2 + (w32 (2 * x5)))) + 1) ∧ w32 ((w32 (x2 + (w32 (2 * x5)))) + 1) < 60) (bnd (f_U_tells n (w32 (M2 (100 + x1.toNat) (w32 (x2 + (w32 (2 * x5)))).toNat)) (w32 (M2 (100 + x1.toNat) (w32 ((w32 (x2 + (w32 (2 * x5)))) + 1)).toNat)) M2) (fun r9 M9 => if r9 ≠ 0 then k34 x1 x2 x3 (w32 (x4 + 1)) (w32 (x5 + 1)) M9 else (some (x4, M9))))))) else (some (x4, M2))))
def lp_W_goodPairs_34 (n : Nat) : Nat → Int → Int → Int → Int → Int → Mm → Rr
  | 0, _, _, _, _, _, _ => none
  | f + 1, x1, x2, x3, x4, x5, M => f_W_goodPairs_34 n (lp_W_goodPairs_34 n f) x1 x2 x3 x4 x5 M
def f_W_goodPairs (n : Nat) (x1 x2 x3 : Int) (M : Mm) : Rr := bnd (f_U_look n (M 1 0) M) (fun r2 M2 => bnd (f_U_tally n  M2) (fun r3 M3 => bnd (f_U_clear n  M3) (fun r4 M4 => lp_W_goodPairs_34 n  n x1 x2 x3 0 0 M4)))
def f_W_proof (n : Nat) (x1 x2 x3 : Int) (M : Mm) : Rr := bnd (f_W_isTape n x1 M) (fun r1 M1 => if r1 ≠ 0 then if x3 < 1 then some ((-2), M1) else (if x3 ≤ 7 then ck (0 ≤ x1 ∧ x1 < 6) (if (M1 13 x1.toNat) ≠ (-1) then ck (0 ≤ x1 ∧ x1 < 6) (if (M1 13 x1.toNat) = 1 then bnd (f_W_goodPairs n x1 x2 x3 M1) (fun r11 M11 => bnd (f_W_hasPlaces n x1 x2 (w32 (2 * x3)) M11) (fun r12 M12 => if r12 = 0 then some (w32 (r11 + 100), M12) else (some (r11, M12)))) else (some ((-12), M1))) else (some (100, M1))) else (some ((-2), M1))) else (some ((-1), M1)))
def f_F_load_154 (n : Nat) (k69 : Int → Mm → Rr) (x1 : Int) (M : Mm) : Rr := k69 (w32 (x1 + 1)) M
def f_F_load_69 (n : Nat) (k69 : Int → Mm → Rr) (x1 : Int) (M : Mm) : Rr := if (M 1 4) ≤ x1 then some (0, M) else (ck (0 ≤ x1 ∧ x1 < 40) (if (M 25 x1.toNat) < 0 then f_F_load_154 n k69 x1 M else (ck (0 ≤ x1 ∧ x1 < 40) (ck (0 ≤ (M 21 x1.toNat) ∧ (M 21 x1.toNat) < 16) (ck (0 ≤ x1 ∧ x1 < 40) (ck (0 ≤ (M 25 x1.toNat) ∧ (M 25 x1.toNat) < 16) (ck (0 ≤ x1 ∧ x1 < 40) (ck (0 ≤ (M 25 x1.toNat) ∧ (M 25 x1.toNat) < 16) (ck (0 ≤ x1 ∧ x1 < 40) (ck (0 ≤ ((mset M (180 + (M 21 x1.toNat).toNat) (M 25 x1.toNat).toNat (w32 ((M (180 + (M 21 x1.toNat).toNat) (M 25 x1.toNat).toNat) + (M 22 x1.toNat)))) 21 x1.toNat) ∧ ((mset M (180 + (M 21 x1.toNat).toNat) (M 25 x1.toNat).toNat (w32 ((M (180 + (M 21 x1.toNat).toNat) (M 25 x1.toNat).toNat) + (M 22 x1.toNat)))) 21 x1.toNat) < 16) (ck (0 ≤ x1 ∧ x1 < 40) (ck (0 ≤ ((mset M (180 + (M 21 x1.toNat).toNat) (M 25 x1.toNat).toNat (w32 ((M (180 + (M 21 x1.toNat).toNat) (M 25 x1.toNat).toNat) + (M 22 x1.toNat)))) 21 x1.toNat) ∧ ((mset M (180 + (M 21 x1.toNat).toNat) (M 25 x1.toNat).toNat (w32 ((M (180 + (M 21 x1.toNat).toNat) (M 25 x1.toNat).toNat) + (M 22 x1.toNat)))) 21 x1.toNat) < 16) (f_F_load_154 n k69 x1 (mset (mset M (180 + (M 21 x1.toNat).toNat) (M 25 x1.toNat).toNat (w32 ((M (180 + (M 21 x1.toNat).toNat) (M 25 x1.toNat).toNat) + (M 22 x1.toNat)))) 57 ((mset M (180 + (M 21 x1.toNat).toNat) (M 25 x1.toNat).toNat (w32 ((M (180 + (M 21 x1.toNat).toNat) (M 25 x1.toNat).toNat) + (M 22 x1.toNat)))) 21 x1.toNat).toNat (w32 (((mset M (180 + (M 21 x1.toNat).toNat) (M 25 x1.toNat).toNat (w32 ((M (180 + (M 21 x1.toNat).toNat) (M 25 x1.toNat).toNat) + (M 22 x1.toNat)))) 57 ((mset M (180 + (M 21 x1.toNat).toNat) (M 25 x1.toNat).toNat (w32 ((M (180 + (M 21 x1.toNat).toNat) (M 25 x1.toNat).toNat) + (M 22 x1.toNat)))) 21 x1.toNat).toNat) - ((mset M (180 + (M 21 x1.toNat).toNat) (M 25 x1.toNat).toNat (w32 ((M (180 + (M 21 x1.toNat).toNat) (M 25 x1.toNat).toNat) + (M 22 x1.toNat)))) 22 x1.toNat)))))))))))))))))
def lp_F_load_69 (n : Nat) : Nat → Int → Mm → Rr
  | 0, _, _ => none
  | f + 1, x1, M => f_F_load_69 n (lp_F_load_69 n f) x1 M
def f_F_load_16 (n : Nat) (k16 : Int → Mm → Rr) (x1 : Int) (M : Mm) : Rr := if (M 1 2) ≤ x1 then lp_F_load_69 n  n 0 M else (ck (0 ≤ x1 ∧ x1 < 7) (ck (0 ≤ (M 19 x1.toNat) ∧ (M 19 x1.toNat) < 16) (ck (0 ≤ x1 ∧ x1 < 7) (ck (0 ≤ ((mfil M (180 + (M 19 x1.toNat).toNat) 16 0) 19 x1.toNat) ∧ ((mfil M (180 + (M 19 x1.toNat).toNat) 16 0) 19 x1.toNat) < 16) (k16 (w32 (x1 + 1)) (mset (mfil M (180 + (M 19 x1.toNat).toNat) 16 0) 57 ((mfil M (180 + (M 19 x1.toNat).toNat) 16 0) 19 x1.toNat).toNat 12))))))
def lp_F_load_16 (n : Nat) : Nat → Int → Mm → Rr
  | 0, _, _ => none
  | f + 1, x1, M => f_F_load_16 n (lp_F_load_16 n f) x1 M
def f_F_load (n : Nat) (M : Mm) : Rr := bnd (f_R_lookAt n (M 1 0) M) (fun r2 M2 => lp_F_load_16 n  n 0 M2)
def f_F_givesOut_46 (n : Nat) (k2 : Int → Int → Int → Mm → Rr) (x1 x2 x3 : Int) (M : Mm) : Rr := k2 x1 x2 (w32 (x3 + 1)) M
def f_F_givesOut_2 (n : Nat) (k2 : Int → Int → Int → Mm → Rr) (x1 x2 x3 : Int) (M : Mm) : Rr := if (M 1 1) ≤ x3 then some (0, M) else (ck (0 ≤ x1 ∧ x1 < 16) (ck (0 ≤ x3 ∧ x3 < 16) (if (M (180 + x1.toNat) x3.toNat) ≤ 0 then f_F_givesOut_46 n k2 x1 x2 x3 M else (bnd (f_R_isFirm n x3 M) (fun r7 M7 => if r7 = 0 then some (1, M7) else (if ian (isr x2 x3) 1 ≠ 1 then f_F_givesOut_46 n k2 x1 x2 x3 M7 else (some (1, M7))))))))
def lp_F_givesOut_2 (n : Nat) : Nat → Int → Int → Int → Mm → Rr
  | 0, _, _, _, _ => none
  | f + 1, x1, x2, x3, M => f_F_givesOut_2 n (lp_F_givesOut_2 n f) x1 x2 x3 M
def f_F_givesOut (n : Nat) (x1 x2 : Int) (M : Mm) : Rr := lp_F_givesOut_2 n  n x1 x2 0 M
def f_F_openFirms_63 (n : Nat) (k4 : Int → Int → Mm → Rr) (k12 : Int → Int → Int → Mm → Rr) (x2 x3 s0 s1 : Int) (M : Mm) : Rr := k12 (ior s0 s1) x2 (w32 (x3 + 1)) M
def f_F_openFirms_55 (n : Nat) (k4 : Int → Int → Mm → Rr) (k12 : Int → Int → Int → Mm → Rr) (x2 x3 x4 s0 : Int) (M : Mm) : Rr := f_F_openFirms_63 n k4 k12 x2 x3 s0 (ish 1 x4) M
def f_F_openFirms_12 (n : Nat) (k4 : Int → Int → Mm → Rr) (k12 : Int → Int → Int → Mm → Rr) (x1 x2 x3 : Int) (M : Mm) : Rr := if (M 1 2) ≤ x3 then k4 x1 (w32 (x2 + 1)) M else (ck (0 ≤ x3 ∧ x3 < 7) (ck (0 ≤ (M 19 x3.toNat) ∧ (M 19 x3.toNat) < 16) (if 0 < (M 57 (M 19 x3.toNat).toNat) then f_F_openFirms_55 n k4 k12 x2 x3 (M 19 x3.toNat) x1 M else (bnd (f_F_givesOut n (M 19 x3.toNat) x1 M) (fun r7 M7 => if r7 = 0 then f_F_openFirms_63 n k4 k12 x2 x3 x1 0 M7 else (f_F_openFirms_55 n k4 k12 x2 x3 (M 19 x3.toNat) x1 M7))))))
def lp_F_openFirms_12 (n : Nat) (k4 : Int → Int → Mm → Rr) : Nat → Int → Int → Int → Mm → Rr
  | 0, _, _, _, _ => none
  | f + 1, x1, x2, x3, M => f_F_openFirms_12 n k4 (lp_F_openFirms_12 n k4 f) x1 x2 x3 M
def f_F_openFirms_4 (n : Nat) (k4 : Int → Int → Mm → Rr) (x1 x2 : Int) (M : Mm) : Rr := if 7 ≤ x2 then some (x1, M) else (lp_F_openFirms_12 n k4 n x1 x2 0 M)
def lp_F_openFirms_4 (n : Nat) : Nat → Int → Int → Mm → Rr
  | 0, _, _, _ => none
  | f + 1, x1, x2, M => f_F_openFirms_4 n (lp_F_openFirms_4 n f) x1 x2 M
def f_F_openFirms (n : Nat) (M : Mm) : Rr := lp_F_openFirms_4 n  n 0 0 M
def f_F_putInOrder_56 (n : Nat) (k5 : Int → Int → Int → Int → Mm → Rr) (x1 x2 x3 x4 : Int) (M : Mm) : Rr := k5 x1 x2 x3 (w32 (x4 + 1)) M
def f_F_putInOrder_5 (n : Nat) (k5 : Int → Int → Int → Int → Mm → Rr) (x1 x2 x3 x4 : Int) (M : Mm) : Rr := if (M 1 2) ≤ x4 then ck (0 ≤ x3 ∧ x3 < 7) (some (w32 (x3 + 1), (mset M 61 x3.toNat x2))) else (ck (0 ≤ x4 ∧ x4 < 7) (if (M 19 x4.toNat) = x2 then f_F_putInOrder_56 n k5 x1 x2 x3 x4 M else (if ian (isr x1 (M 19 x4.toNat)) 1 ≠ 1 then f_F_putInOrder_56 n k5 x1 x2 x3 x4 M else (ck (0 ≤ x3 ∧ x3 < 7) (f_F_putInOrder_56 n k5 x1 x2 (w32 (x3 + 1)) x4 (mset M 61 x3.toNat (M 19 x4.toNat)))))))
def lp_F_putInOrder_5 (n : Nat) : Nat → Int → Int → Int → Int → Mm → Rr
  | 0, _, _, _, _, _ => none
  | f + 1, x1, x2, x3, x4, M => f_F_putInOrder_5 n (lp_F_putInOrder_5 n f) x1 x2 x3 x4 M
def f_F_putInOrder (n : Nat) (x1 x2 : Int) (M : Mm) : Rr := lp_F_putInOrder_5 n  n x1 x2 0 0 M
def f_F_writeLines_36 (n : Nat) (k2 : Int → Int → Int → Mm → Rr) (k10 : Int → Int → Int → Int → Mm → Rr) (x1 x2 x3 x4 s0 s1 s2 : Int) (M : Mm) : Rr := ck (0 ≤ x3 ∧ x3 < 7) (ck (0 ≤ (M 61 x3.toNat) ∧ (M 61 x3.toNat) < 16) (ck (0 ≤ x4 ∧ x4 < 7) (ck (0 ≤ (M 61 x4.toNat) ∧ (M 61 x4.toNat) < 16) (ck (0 ≤ s1 ∧ s1 < 8) (k10 x1 x2 x3 (w32 (x4 + 1)) (mset M (200 + s0.toNat) s1.toNat (w32 (s2 - (M (180 + (M 61 x3.toNat).toNat) (M 61 x4.toNat).toNat)))))))))
def f_F_writeLines_10 (n : Nat) (k2 : Int → Int → Int → Mm → Rr) (k10 : Int → Int → Int → Int → Mm → Rr) (x1 x2 x3 x4 : Int) (M : Mm) : Rr := if x1 ≤ x4 then ck (0 ≤ x3 ∧ x3 < 7) (ck (0 ≤ x3 ∧ x3 < 7) (ck (0 ≤ (M 61 x3.toNat) ∧ (M 61 x3.toNat) < 16) (ck (0 ≤ x2 ∧ x2 < 16) (ck (0 ≤ x1 ∧ x1 < 8) (k2 x1 x2 (w32 (x3 + 1)) (mset M (200 + x3.toNat) x1.toNat (M (180 + (M 61 x3.toNat).toNat) x2.toNat))))))) else (ck (0 ≤ x3 ∧ x3 < 7) (if x3 ≠ x4 then f_F_writeLines_36 n k2 k10 x1 x2 x3 x4 x3 x4 0 M else (f_F_writeLines_36 n k2 k10 x1 x2 x3 x4 x3 x4 12 M)))
def lp_F_writeLines_10 (n : Nat) (k2 : Int → Int → Int → Mm → Rr) : Nat → Int → Int → Int → Int → Mm → Rr
  | 0, _, _, _, _, _ => none
  | f + 1, x1, x2, x3, x4, M => f_F_writeLines_10 n k2 (lp_F_writeLines_10 n k2 f) x1 x2 x3 x4 M
def f_F_writeLines_2 (n : Nat) (k2 : Int → Int → Int → Mm → Rr) (x1 x2 x3 : Int) (M : Mm) : Rr := if x1 ≤ x3 then some (0, M) else (lp_F_writeLines_10 n k2 n x1 x2 x3 0 M)
def lp_F_writeLines_2 (n : Nat) : Nat → Int → Int → Int → Mm → Rr
  | 0, _, _, _, _ => none
  | f + 1, x1, x2, x3, M => f_F_writeLines_2 n (lp_F_writeLines_2 n f) x1 x2 x3 M
def f_F_writeLines (n : Nat) (x1 x2 : Int) (M : Mm) : Rr := lp_F_writeLines_2 n  n x1 x2 0 M
def f_F_eliminate_105 (n : Nat) (k5 : Int → Int → Int → Mm → Rr) (k19 : Int → Int → Int → Int → Mm → Rr) (k31 : Int → Int → Int → Int → Int → Mm → Rr) (x1 x2 x4 x5 x6 s0 s1 s2 : Int) (M : Mm) : Rr := ck (0 ≤ s1 ∧ s1 < 8) (k31 x1 x2 x4 x5 (w32 (x6 + 1)) (mset M (200 + s0.toNat) s1.toNat s2))
def f_F_eliminate_31 (n : Nat) (k5 : Int → Int → Int → Mm → Rr) (k19 : Int → Int → Int → Int → Mm → Rr) (k31 : Int → Int → Int → Int → Int → Mm → Rr) (x1 x2 x4 x5 x6 : Int) (M : Mm) : Rr := if x1 < x6 then k19 x1 x2 x4 (w32 (x5 + 1)) M else (ck (0 ≤ x4 ∧ x4 < 7) (ck (0 ≤ x4 ∧ x4 < 8) (ck (0 ≤ x5 ∧ x5 < 7) (ck (0 ≤ x6 ∧ x6 < 8) (ck (0 ≤ x5 ∧ x5 < 7) (ck (0 ≤ x4 ∧ x4 < 8) (ck (0 ≤ x4 ∧ x4 < 7) (ck (0 ≤ x6 ∧ x6 < 8) (ck (0 ≤ x5 ∧ x5 < 7) (if x2 ≠ 0 then ck (x2 ≠ 0) (f_F_eliminate_105 n k5 k19 k31 x1 x2 x4 x5 x6 x5 x6 (ldv (w64 ((w64 ((M (200 + x4.toNat) x4.toNat) * (M (200 + x5.toNat) x6.toNat))) - (w64 ((M (200 + x5.toNat) x4.toNat) * (M (200 + x4.toNat) x6.toNat))))) x2) M) else (f_F_eliminate_105 n k5 k19 k31 x1 x2 x4 x5 x6 x5 x6 0 M)))))))))))
def lp_F_eliminate_31 (n : Nat) (k5 : Int → Int → Int → Mm → Rr) (k19 : Int → Int → Int → Int → Mm → Rr) : Nat → Int → Int → Int → Int → Int → Mm → Rr
  | 0, _, _, _, _, _, _ => none
  | f + 1, x1, x2, x4, x5, x6, M => f_F_eliminate_31 n k5 k19 (lp_F_eliminate_31 n k5 k19 f) x1 x2 x4 x5 x6 M
def f_F_eliminate_19 (n : Nat) (k5 : Int → Int → Int → Mm → Rr) (k19 : Int → Int → Int → Int → Mm → Rr) (x1 x2 x4 x5 : Int) (M : Mm) : Rr := if x1 ≤ x5 then ck (0 ≤ x4 ∧ x4 < 7) (ck (0 ≤ x4 ∧ x4 < 8) (k5 x1 (M (200 + x4.toNat) x4.toNat) (w32 (x4 + 1)) M)) else (lp_F_eliminate_31 n k5 k19 n x1 x2 x4 x5 (w32 (x4 + 1)) M)
def lp_F_eliminate_19 (n : Nat) (k5 : Int → Int → Int → Mm → Rr) : Nat → Int → Int → Int → Int → Mm → Rr
  | 0, _, _, _, _, _ => none
  | f + 1, x1, x2, x4, x5, M => f_F_eliminate_19 n k5 (lp_F_eliminate_19 n k5 f) x1 x2 x4 x5 M
def f_F_eliminate_5 (n : Nat) (k5 : Int → Int → Int → Mm → Rr) (x1 x2 x4 : Int) (M : Mm) : Rr := if w32 (x1 - 1) ≤ x4 then some (0, M) else (lp_F_eliminate_19 n k5 n x1 x2 x4 (w32 (x4 + 1)) M)
def lp_F_eliminate_5 (n : Nat) : Nat → Int → Int → Int → Mm → Rr
  | 0, _, _, _, _ => none
  | f + 1, x1, x2, x4, M => f_F_eliminate_5 n (lp_F_eliminate_5 n f) x1 x2 x4 M
def f_F_eliminate (n : Nat) (x1 : Int) (M : Mm) : Rr := lp_F_eliminate_5 n  n x1 1 0 M
def f_F_greatestDivisor_9 (n : Nat) (k9 : Int → Int → Int → Mm → Rr) (x4 x6 x8 : Int) (M : Mm) : Rr := if 200 ≤ x8 then some (x4, M) else (if x6 = 0 then some (x4, M) else (ck (x6 ≠ 0) (k9 x6 (lrm x4 x6) (w32 (x8 + 1)) M)))
def lp_F_greatestDivisor_9 (n : Nat) : Nat → Int → Int → Int → Mm → Rr
  | 0, _, _, _, _ => none
  | f + 1, x4, x6, x8, M => f_F_greatestDivisor_9 n (lp_F_greatestDivisor_9 n f) x4 x6 x8 M
def f_F_greatestDivisor (n : Nat) (x0 x2 : Int) (M : Mm) : Rr := lp_F_greatestDivisor_9 n  n x0 x2 0 M
def f_F_unroll (n : Nat) (x1 x2 : Int) (M : Mm) : Rr := bnd (f_F_load n  M) (fun r1 M1 => bnd (f_F_openFirms n  (mset (mset M1 5 8 0) 5 9 1)) (fun r2 M2 => if ian (isr r2 x1) 1 ≠ 0 then bnd (f_F_putInOrder n r2 x1 M2) (fun r4 M4 => bnd (f_F_writeLines n r4 x2 M4) (fun r5 M5 => bnd (f_F_eliminate n r4 M5) (fun r6 M6 => ck (0 ≤ w32 (r4 - 1) ∧ w32 (r4 - 1) < 7) (ck (0 ≤ r4 ∧ r4 < 8) (ck (0 ≤ w32 (r4 - 1) ∧ w32 (r4 - 1) < 7) (ck (0 ≤ w32 (r4 - 1) ∧ w32 (r4 - 1) < 8) (bnd (f_F_greatestDivisor n (M6 (200 + (w32 (r4 - 1)).toNat) r4.toNat) (M6 (200 + (w32 (r4 - 1)).toNat) (w32 (r4 - 1)).toNat) M6) (fun r12 M12 => if r12 ≤ 0 then some (0, M12) else (ck (0 ≤ w32 (r4 - 1) ∧ w32 (r4 - 1) < 7) (ck (0 ≤ r4 ∧ r4 < 8) (ck (r12 ≠ 0) (ck (0 ≤ w32 (r4 - 1) ∧ w32 (r4 - 1) < 7) (ck (0 ≤ w32 (r4 - 1) ∧ w32 (r4 - 1) < 8) (ck (r12 ≠ 0) (some (0, (mset (mset M12 5 8 (ldv (M12 (200 + (w32 (r4 - 1)).toNat) r4.toNat) r12)) 5 9 (ldv ((mset M12 5 8 (ldv (M12 (200 + (w32 (r4 - 1)).toNat) r4.toNat) r12)) (200 + (w32 (r4 - 1)).toNat) (w32 (r4 - 1)).toNat) r12)))))))))))))))))) else (some (0, M2))))
def f_W_worth (n : Nat) (x1 x2 x3 : Int) (M : Mm) : Rr := bnd (f_R_isFirm n x1 M) (fun r1 M1 => if r1 = 0 then some ((-9223372036854775808), M1) else (bnd (f_R_isHolder n x2 M1) (fun r3 M3 => if r3 = 0 then some ((-9223372036854775808), M3) else (bnd (f_R_isFirm n x2 M3) (fun r5 M5 => if r5 = 0 then if x3 < 0 then some ((-9223372036854775808), M5) else (if x3 ≤ 1 then bnd (f_F_unroll n x1 x2 M5) (fun r9 M9 => if x3 ≠ 0 then some ((M9 5 9), M9) else (some ((M9 5 8), M9))) else (some ((-9223372036854775808), M5))) else (some ((-9223372036854775808), M5)))))))
def f_F_isHollow (n : Nat) (x1 : Int) (M : Mm) : Rr := bnd (f_F_load n  M) (fun r1 M1 => bnd (f_F_openFirms n  M1) (fun r2 M2 => if ian (isr r2 x1) 1 ≠ 0 then some (0, M2) else (some (1, M2))))
def f_W_hollow (n : Nat) (x1 : Int) (M : Mm) : Rr := bnd (f_R_isFirm n x1 M) (fun r1 M1 => if r1 ≠ 0 then bnd (f_F_isHollow n x1 M1) (fun r3 M3 => if r3 = 0 then some (0, M3) else (some (1, M3))) else (some ((-1), M1)))
def f_U_voice (n : Nat) (x1 : Int) (M : Mm) : Rr := ck (0 ≤ x1 ∧ x1 < 16) (if (M 45 x1.toNat) < 0 then some (x1, M) else (ck (0 ≤ x1 ∧ x1 < 16) (some ((M 45 x1.toNat), M))))
def f_S_sumBlocks_77 (n : Nat) (k12 : Int → Int → Int → Mm → Rr) (x1 x3 s0 s1 : Int) (M : Mm) : Rr := k12 x1 (ior s0 s1) (w32 (x3 + 1)) M
def f_S_sumBlocks_12 (n : Nat) (k12 : Int → Int → Int → Mm → Rr) (x1 x2 x3 : Int) (M : Mm) : Rr := if (M 1 1) ≤ x3 then some (x2, M) else (bnd (f_U_voice n x3 M) (fun r3 M3 => ck (0 ≤ r3 ∧ r3 < 16) (ck (0 ≤ x1 ∧ x1 < 16) (ck (0 ≤ x3 ∧ x3 < 16) (ck (0 ≤ r3 ∧ r3 < 16) (ck (0 ≤ x1 ∧ x1 < 16) (ck (0 ≤ x3 ∧ x3 < 16) (if ((mset M3 52 r3.toNat (w32 ((M3 52 r3.toNat) + (M3 (130 + x1.toNat) x3.toNat)))) (130 + x1.toNat) x3.toNat) ≤ 0 then f_S_sumBlocks_77 n k12 x1 x3 x2 0 (mset M3 52 r3.toNat (w32 ((M3 52 r3.toNat) + (M3 (130 + x1.toNat) x3.toNat)))) else (f_S_sumBlocks_77 n k12 x1 x3 x2 (ish 1 r3) (mset M3 52 r3.toNat (w32 ((M3 52 r3.toNat) + (M3 (130 + x1.toNat) x3.toNat)))))))))))))
def lp_S_sumBlocks_12 (n : Nat) : Nat → Int → Int → Int → Mm → Rr
  | 0, _, _, _, _ => none
  | f + 1, x1, x2, x3, M => f_S_sumBlocks_12 n (lp_S_sumBlocks_12 n f) x1 x2 x3 M
def f_S_sumBlocks (n : Nat) (x1 : Int) (M : Mm) : Rr := lp_S_sumBlocks_12 n  n x1 0 0 (mfil M 52 16 0)
def f_S_listOthers_70 (n : Nat) (k70 : Int → Mm → Rr) (x2 : Int) (M : Mm) : Rr := if x2 < 0 then some (0, M) else (ck (0 ≤ w32 (x2 + 1) ∧ w32 (x2 + 1) < 17) (ck (0 ≤ x2 ∧ x2 < 16) (ck (0 ≤ x2 ∧ x2 < 17) (k70 (w32 (x2 + (-1))) (mset M 55 x2.toNat (w32 ((M 55 (w32 (x2 + 1)).toNat) + (M 54 x2.toNat))))))))
def lp_S_listOthers_70 (n : Nat) : Nat → Int → Mm → Rr
  | 0, _, _ => none
  | f + 1, x2, M => f_S_listOthers_70 n (lp_S_listOthers_70 n f) x2 M
def f_S_listOthers_47 (n : Nat) (k7 : Int → Int → Mm → Rr) (x1 x2 : Int) (M : Mm) : Rr := k7 x1 (w32 (x2 + 1)) M
def f_S_listOthers_7 (n : Nat) (k7 : Int → Int → Mm → Rr) (x1 x2 : Int) (M : Mm) : Rr := if 16 ≤ x2 then ck (0 ≤ (M 4 11) ∧ (M 4 11) < 17) (lp_S_listOthers_70 n  n (w32 (((mset M 55 (M 4 11).toNat 0) 4 11) - 1)) (mset M 55 (M 4 11).toNat 0)) else (if ian (isr x1 x2) 1 ≠ 1 then f_S_listOthers_47 n k7 x1 x2 M else (ck (0 ≤ x2 ∧ x2 < 16) (ck (0 ≤ (M 4 11) ∧ (M 4 11) < 16) (f_S_listOthers_47 n k7 x1 x2 (mset (mset M 54 (M 4 11).toNat (M 52 x2.toNat)) 4 11 (w32 (((mset M 54 (M 4 11).toNat (M 52 x2.toNat)) 4 11) + 1)))))))
def lp_S_listOthers_7 (n : Nat) : Nat → Int → Int → Mm → Rr
  | 0, _, _, _ => none
  | f + 1, x1, x2, M => f_S_listOthers_7 n (lp_S_listOthers_7 n f) x1 x2 M
def f_S_listOthers (n : Nat) (x1 : Int) (M : Mm) : Rr := lp_S_listOthers_7 n  n x1 0 (mset M 4 11 0)
def f_S_ways_49 (n : Nat) (rec : Nat → Int → Int → Int → Int → Mm → Rr) (x2 x3 x4 x5 : Int) (M : Mm) : Rr := if x2 ≠ x3 then bnd (rec 0 (w32 (x2 + 1)) x3 x4 x5 M) (fun r2 M2 => ck (0 ≤ x2 ∧ x2 < 16) (ck (0 ≤ x2 ∧ x2 < 16) (bnd (rec 0 (w32 (x2 + 1)) x3 (w32 (x4 - (M2 54 x2.toNat))) (w32 (x5 - (M2 54 x2.toNat))) M2) (fun r6 M6 => some (w32 (r2 + r6), M6))))) else (some (0, M))
def f_S_ways (n : Nat) (rec : Nat → Int → Int → Int → Int → Mm → Rr) (x2 x3 x4 x5 : Int) (M : Mm) : Rr := if x2 < 0 then some (0, M) else (if x3 < x2 then some (0, M) else (if 16 < x3 then some (0, M) else (if x5 < 0 then some (0, M) else (ck (0 ≤ x2 ∧ x2 < 17) (if x4 ≤ (M 55 x2.toNat) then if 0 < x4 then f_S_ways_49 n rec  x2 x3 x4 x5 M else (ck (0 ≤ x2 ∧ x2 < 17) (if x5 < (M 55 x2.toNat) then f_S_ways_49 n rec  x2 x3 x4 x5 M else (some (ish 1 (w32 (x3 - x2)), M)))) else (some (0, M)))))))
def g_ways (n : Nat) : Nat → Nat → Int → Int → Int → Int → Mm → Rr
  | 0, _, _, _, _, _, _ => none
  | d + 1, _, x0, x1, x2, x3, M => f_S_ways n (g_ways n d) x0 x1 x2 x3 M
def f_S_turns_189 (n : Nat) (x3 s0 s1 : Int) (M : Mm) : Rr := ck (0 ≤ x3 ∧ x3 < 16) (bnd (g_ways n 20 0 0 (M 4 11) (w32 ((w32 ((w32 (s0 - s1)) + 1)) - (M 52 x3.toNat))) (w32 (s0 - s1)) M) (fun r3 M3 => some (r3, M3)))
def f_S_turns_64 (n : Nat) (x1 x3 s0 : Int) (M : Mm) : Rr := bnd (f_S_sumBlocks n x1 M) (fun r1 M1 => if ian (isr (ior r1 s0) x3) 1 ≠ 0 then bnd (f_S_listOthers n (ian (ian (ior r1 s0) (ixo (ish 1 x3) (-1))) (ixo s0 (-1))) M1) (fun r3 M3 => ck (0 ≤ x1 ∧ x1 < 16) (if s0 ≠ ish 1 x3 then if s0 ≠ 0 then ck (0 ≤ x1 ∧ x1 < 16) (bnd (f_U_voice n (M3 43 x1.toNat) M3) (fun r10 M10 => ck (0 ≤ r10 ∧ r10 < 16) (f_S_turns_189 n  x3 (M3 44 x1.toNat) (M10 52 r10.toNat) M10))) else (f_S_turns_189 n  x3 (M3 44 x1.toNat) 0 M3) else (ck (0 ≤ x3 ∧ x3 < 16) (bnd (g_ways n 20 0 0 (M3 4 11) (w32 ((w32 ((M3 44 x1.toNat) + 1)) - (M3 52 x3.toNat))) (M3 55 (0 : Int).toNat) M3) (fun r15 M15 => some (r15, M15)))))) else (some (0, M1)))
def f_S_turns (n : Nat) (x1 x2 : Int) (M : Mm) : Rr := bnd (f_U_look n (M 1 0) M) (fun r2 M2 => bnd (f_U_least n  M2) (fun r3 M3 => bnd (f_U_voice n x2 M3) (fun r4 M4 => ck (0 ≤ x1 ∧ x1 < 16) (if 0 ≤ (M4 43 x1.toNat) then ck (0 ≤ x1 ∧ x1 < 16) (bnd (f_U_voice n (M4 43 x1.toNat) M4) (fun r10 M10 => f_S_turns_64 n  x1 r4 (ish 1 r10) M10)) else (f_S_turns_64 n  x1 r4 0 M4)))))
def f_W_pivot (n : Nat) (x1 x2 : Int) (M : Mm) : Rr := bnd (f_R_isFirm n x1 M) (fun r1 M1 => if r1 = 0 then some ((-1), M1) else (bnd (f_R_isHolder n x2 M1) (fun r3 M3 => if r3 ≠ 0 then bnd (f_S_turns n x1 x2 M3) (fun r5 M5 => some (r5, M5)) else (some ((-1), M3)))))
def f_S_pickForSale_72 (n : Nat) (k7 : Int → Int → Mm → Rr) (x1 x2 : Int) (M : Mm) : Rr := k7 x1 (w32 (x2 + 1)) M
def f_S_pickForSale_7 (n : Nat) (k7 : Int → Int → Mm → Rr) (x1 x2 : Int) (M : Mm) : Rr := if (M 1 4) ≤ x2 then some (0, M) else (if 8 ≤ (M 4 3) then some (0, M) else (ck (0 ≤ x2 ∧ x2 < 40) (if (M 24 x2.toNat) ≤ 0 then f_S_pickForSale_72 n k7 x1 x2 M else (ck (0 ≤ x2 ∧ x2 < 40) (if (M 25 x2.toNat) = x1 then f_S_pickForSale_72 n k7 x1 x2 M else (ck (0 ≤ (M 4 3) ∧ (M 4 3) < 8) (f_S_pickForSale_72 n k7 x1 x2 (mset (mset M 48 (M 4 3).toNat x2) 4 3 (w32 (((mset M 48 (M 4 3).toNat x2) 4 3) + 1))))))))))
def lp_S_pickForSale_7 (n : Nat) : Nat → Int → Int → Mm → Rr
  | 0, _, _, _ => none
  | f + 1, x1, x2, M => f_S_pickForSale_7 n (lp_S_pickForSale_7 n f) x1 x2 M
def f_S_pickForSale (n : Nat) (x1 : Int) (M : Mm) : Rr := lp_S_pickForSale_7 n  n x1 0 (mset M 4 3 0)
def f_S_sharesOf_38 (n : Nat) (k5 : Int → Int → Int → Mm → Rr) (x1 x4 s0 s1 : Int) (M : Mm) : Rr := k5 x1 (lor s0 s1) (w32 (x4 + 1)) M
def f_S_sharesOf_5 (n : Nat) (k5 : Int → Int → Int → Mm → Rr) (x1 x2 x4 : Int) (M : Mm) : Rr := if (M 4 3) ≤ x4 then some (x2, M) else (if ian (isr x1 x4) 1 ≠ 1 then f_S_sharesOf_38 n k5 x1 x4 x2 0 M else (ck (0 ≤ x4 ∧ x4 < 8) (f_S_sharesOf_38 n k5 x1 x4 x2 (lsh 1 (M 48 x4.toNat)) M)))
def lp_S_sharesOf_5 (n : Nat) : Nat → Int → Int → Int → Mm → Rr
  | 0, _, _, _, _ => none
  | f + 1, x1, x2, x4, M => f_S_sharesOf_5 n (lp_S_sharesOf_5 n f) x1 x2 x4 M
def f_S_sharesOf (n : Nat) (x1 : Int) (M : Mm) : Rr := lp_S_sharesOf_5 n  n x1 0 0 M
def f_R_priceOf_37 (n : Nat) (k5 : Int → Int → Int → Mm → Rr) (x1 x4 s0 s1 : Int) (M : Mm) : Rr := k5 x1 (w32 (s0 + s1)) (w32 (x4 + 1)) M
def f_R_priceOf_5 (n : Nat) (k5 : Int → Int → Int → Mm → Rr) (x1 x3 x4 : Int) (M : Mm) : Rr := if (M 1 4) ≤ x4 then some (x3, M) else (if lan (lsr x1 x4) 1 ≠ 1 then f_R_priceOf_37 n k5 x1 x4 x3 0 M else (ck (0 ≤ x4 ∧ x4 < 40) (f_R_priceOf_37 n k5 x1 x4 x3 (M 24 x4.toNat) M)))
def lp_R_priceOf_5 (n : Nat) : Nat → Int → Int → Int → Mm → Rr
  | 0, _, _, _, _ => none
  | f + 1, x1, x3, x4, M => f_R_priceOf_5 n (lp_R_priceOf_5 n f) x1 x3 x4 M
def f_R_priceOf (n : Nat) (x1 : Int) (M : Mm) : Rr := lp_R_priceOf_5 n  n x1 0 0 M
def f_U_suppose (n : Nat) (x1 x2 : Int) (M : Mm) : Rr := ck (0 ≤ x1 ∧ x1 < 40) (bnd (f_U_weigh n x1 x2 ((mset M 39 x1.toNat x2) 3 2) (mset M 39 x1.toNat x2)) (fun r3 M3 => ck (0 ≤ x1 ∧ x1 < 40) (some (0, (mset M3 40 x1.toNat r3)))))
def f_S_ruledAfter_54 (n : Nat) (k3 : Int → Int → Int → Int → Mm → Rr) (x1 x2 x3 x4 : Int) (M : Mm) : Rr := k3 x1 x2 x3 (w32 (x4 + 1)) M
def f_S_ruledAfter_3 (n : Nat) (k3 : Int → Int → Int → Int → Mm → Rr) (x1 x2 x3 x4 : Int) (M : Mm) : Rr := if (M 4 3) ≤ x4 then bnd (f_U_least n  M) (fun r3 M3 => ck (0 ≤ x3 ∧ x3 < 16) (some ((M3 45 x3.toNat), M3))) else (if ian (isr x1 x4) 1 ≠ 1 then ck (0 ≤ x4 ∧ x4 < 8) (bnd (f_U_restore n (M 48 x4.toNat) M) (fun r9 M9 => f_S_ruledAfter_54 n k3 x1 x2 x3 x4 M9)) else (ck (0 ≤ x4 ∧ x4 < 8) (bnd (f_U_suppose n (M 48 x4.toNat) x2 M) (fun r12 M12 => f_S_ruledAfter_54 n k3 x1 x2 x3 x4 M12))))
def lp_S_ruledAfter_3 (n : Nat) : Nat → Int → Int → Int → Int → Mm → Rr
  | 0, _, _, _, _, _ => none
  | f + 1, x1, x2, x3, x4, M => f_S_ruledAfter_3 n (lp_S_ruledAfter_3 n f) x1 x2 x3 x4 M
def f_S_ruledAfter (n : Nat) (x1 x2 x3 : Int) (M : Mm) : Rr := lp_S_ruledAfter_3 n  n x1 x2 x3 0 M
def f_S_cheapest_115 (n : Nat) (k28 : Int → Int → Int → Int → Int → Mm → Rr) (x1 x2 x3 x4 x5 : Int) (M : Mm) : Rr := k28 x1 x2 x3 x4 (w32 (x5 + 1)) M
def f_S_cheapest_96 (n : Nat) (k28 : Int → Int → Int → Int → Int → Mm → Rr) (x1 x2 x3 x4 x5 x6 : Int) (M : Mm) : Rr := bnd (f_S_ruledAfter n x5 x1 x2 M) (fun r1 M1 => if r1 ≠ x1 then f_S_cheapest_115 n k28 x1 x2 x3 x4 x5 M1 else (f_S_cheapest_115 n k28 x1 x2 x5 x6 x5 M1))
def f_S_cheapest_75 (n : Nat) (k28 : Int → Int → Int → Int → Int → Mm → Rr) (x1 x2 x3 x4 x5 x6 s0 : Int) (M : Mm) : Rr := if x6 < x4 then f_S_cheapest_96 n k28 x1 x2 x3 x4 x5 x6 M else (if x6 ≠ x4 then f_S_cheapest_115 n k28 x1 x2 x3 x4 x5 M else (if s0 = 0 then f_S_cheapest_115 n k28 x1 x2 x3 x4 x5 M else (f_S_cheapest_96 n k28 x1 x2 x3 x4 x5 x6 M)))
def f_S_cheapest_74 (n : Nat) (k28 : Int → Int → Int → Int → Int → Mm → Rr) (x1 x2 x3 x4 x5 x6 : Int) (M : Mm) : Rr := f_S_cheapest_75 n k28 x1 x2 x3 x4 x5 x6 0 M
def f_S_cheapest_28 (n : Nat) (k28 : Int → Int → Int → Int → Int → Mm → Rr) (x1 x2 x3 x4 x5 : Int) (M : Mm) : Rr := if ish 1 (M 4 3) ≤ x5 then if 0 ≤ x3 then bnd (f_S_sharesOf n x3 M) (fun r4 M4 => some (r4, M4)) else (some ((-5), M)) else (bnd (f_S_sharesOf n x5 M) (fun r5 M5 => bnd (f_R_priceOf n r5 M5) (fun r6 M6 => if x3 < 0 then f_S_cheapest_74 n k28 x1 x2 x3 x4 x5 r6 M6 else (bnd (f_JI_bitCount n x5 M6) (fun r8 M8 => bnd (f_JI_bitCount n x3 M8) (fun r9 M9 => if r9 ≤ r8 then f_S_cheapest_74 n k28 x1 x2 x3 x4 x5 r6 M9 else (f_S_cheapest_75 n k28 x1 x2 x3 x4 x5 r6 1 M9)))))))
def lp_S_cheapest_28 (n : Nat) : Nat → Int → Int → Int → Int → Int → Mm → Rr
  | 0, _, _, _, _, _, _ => none
  | f + 1, x1, x2, x3, x4, x5, M => f_S_cheapest_28 n (lp_S_cheapest_28 n f) x1 x2 x3 x4 x5 M
def f_S_cheapest (n : Nat) (x1 x2 : Int) (M : Mm) : Rr := bnd (f_U_look n (M 1 0) M) (fun r2 M2 => bnd (f_S_pickForSale n x1 M2) (fun r3 M3 => lp_S_cheapest_28 n  n x1 x2 (-1) 39961 0 M3))
def f_W_buy_57 (n : Nat) (x4 : Int) (M : Mm) : Rr := some (x4, M)
def f_W_buy (n : Nat) (x1 x2 x3 : Int) (M : Mm) : Rr := bnd (f_R_isRuler n x1 M) (fun r1 M1 => if r1 = 0 then some ((-9223372036854775808), M1) else (bnd (f_R_isFirm n x2 M1) (fun r3 M3 => if r3 = 0 then some ((-9223372036854775808), M3) else (if x3 < 0 then some ((-9223372036854775808), M3) else (if x3 ≤ 1 then bnd (f_S_cheapest n x1 x2 M3) (fun r7 M7 => if r7 < 0 then f_W_buy_57 n  r7 M7 else (if x3 ≠ 0 then bnd (f_R_priceOf n r7 M7) (fun r10 M10 => some (r10, M10)) else (f_W_buy_57 n  r7 M7))) else (some ((-9223372036854775808), M3)))))))
def f_S_changedWithout_111 (n : Nat) (k60 : Int → Int → Mm → Rr) (x3 s0 s1 : Int) (M : Mm) : Rr := k60 (ior s0 s1) (w32 (x3 + 1)) M
def f_S_changedWithout_60 (n : Nat) (k60 : Int → Int → Mm → Rr) (x2 x3 : Int) (M : Mm) : Rr := if (M 1 2) ≤ x3 then some (x2, M) else (ck (0 ≤ x3 ∧ x3 < 7) (ck (0 ≤ (M 19 x3.toNat) ∧ (M 19 x3.toNat) < 16) (ck (0 ≤ (M 19 x3.toNat) ∧ (M 19 x3.toNat) < 16) (if (M 45 (M 19 x3.toNat).toNat) = (M 53 (M 19 x3.toNat).toNat) then f_S_changedWithout_111 n k60 x3 x2 0 M else (f_S_changedWithout_111 n k60 x3 x2 (ish 1 (M 19 x3.toNat)) M)))))
def lp_S_changedWithout_60 (n : Nat) : Nat → Int → Int → Mm → Rr
  | 0, _, _, _ => none
  | f + 1, x2, x3, M => f_S_changedWithout_60 n (lp_S_changedWithout_60 n f) x2 x3 M
def f_S_changedWithout (n : Nat) (x1 : Int) (M : Mm) : Rr := bnd (f_U_look n (M 1 0) M) (fun r2 M2 => bnd (f_U_least n  M2) (fun r3 M3 => ck (0 ≤ (0 : Int) ∧ 0 ≤ (0 : Int) ∧ 0 ≤ (16 : Int) ∧ (0 : Int) + 16 ≤ 16 ∧ (0 : Int) + 16 ≤ 16) (bnd (f_U_suppose n x1 (-5) (mcpy M3 45 (0 : Int).toNat 53 (0 : Int).toNat (16 : Int).toNat)) (fun r5 M5 => bnd (f_U_least n  M5) (fun r6 M6 => lp_S_changedWithout_60 n  n 0 0 M6)))))
def f_W_sold (n : Nat) (x1 : Int) (M : Mm) : Rr := bnd (f_R_isShare n x1 M) (fun r1 M1 => if r1 = 0 then some ((-1), M1) else (bnd (f_S_changedWithout n x1 M1) (fun r3 M3 => some (r3, M3))))
def f_S_pickOfGroup_80 (n : Nat) (k7 : Int → Int → Mm → Rr) (x1 x2 : Int) (M : Mm) : Rr := k7 x1 (w32 (x2 + 1)) M
def f_S_pickOfGroup_7 (n : Nat) (k7 : Int → Int → Mm → Rr) (x1 x2 : Int) (M : Mm) : Rr := if (M 1 4) ≤ x2 then some (0, M) else (if 8 ≤ (M 4 3) then some (0, M) else (ck (0 ≤ x2 ∧ x2 < 40) (if (M 25 x2.toNat) < 0 then f_S_pickOfGroup_80 n k7 x1 x2 M else (ck (0 ≤ x2 ∧ x2 < 40) (ck (0 ≤ (M 25 x2.toNat) ∧ (M 25 x2.toNat) < 16) (if (M 45 (M 25 x2.toNat).toNat) ≠ x1 then f_S_pickOfGroup_80 n k7 x1 x2 M else (ck (0 ≤ (M 4 3) ∧ (M 4 3) < 8) (f_S_pickOfGroup_80 n k7 x1 x2 (mset (mset M 48 (M 4 3).toNat x2) 4 3 (w32 (((mset M 48 (M 4 3).toNat x2) 4 3) + 1)))))))))))
def lp_S_pickOfGroup_7 (n : Nat) : Nat → Int → Int → Mm → Rr
  | 0, _, _, _ => none
  | f + 1, x1, x2, M => f_S_pickOfGroup_7 n (lp_S_pickOfGroup_7 n f) x1 x2 M
def f_S_pickOfGroup (n : Nat) (x1 : Int) (M : Mm) : Rr := lp_S_pickOfGroup_7 n  n x1 0 (mset M 4 3 0)
def f_S_fewestToFree_96 (n : Nat) (k53 : Int → Int → Int → Int → Mm → Rr) (x1 x3 x4 x5 : Int) (M : Mm) : Rr := k53 x1 x3 x4 (w32 (x5 + 1)) M
def f_S_fewestToFree_53 (n : Nat) (k53 : Int → Int → Int → Int → Mm → Rr) (x1 x3 x4 x5 : Int) (M : Mm) : Rr := if ish 1 (M 4 3) ≤ x5 then if 0 ≤ x3 then bnd (f_S_sharesOf n x3 M) (fun r4 M4 => some (r4, M4)) else (some ((-5), M)) else (bnd (f_JI_bitCount n x5 M) (fun r5 M5 => if x4 ≤ r5 then f_S_fewestToFree_96 n k53 x1 x3 x4 x5 M5 else (bnd (f_S_ruledAfter n x5 (-5) x1 M5) (fun r7 M7 => if 0 ≤ r7 then f_S_fewestToFree_96 n k53 x1 x3 x4 x5 M7 else (bnd (f_JI_bitCount n x5 M7) (fun r9 M9 => f_S_fewestToFree_96 n k53 x1 x5 r9 x5 M9))))))
def lp_S_fewestToFree_53 (n : Nat) : Nat → Int → Int → Int → Int → Mm → Rr
  | 0, _, _, _, _, _ => none
  | f + 1, x1, x3, x4, x5, M => f_S_fewestToFree_53 n (lp_S_fewestToFree_53 n f) x1 x3 x4 x5 M
def f_S_fewestToFree (n : Nat) (x1 : Int) (M : Mm) : Rr := bnd (f_U_look n (M 1 0) M) (fun r2 M2 => bnd (f_U_least n  M2) (fun r3 M3 => ck (0 ≤ x1 ∧ x1 < 16) (if 0 ≤ (M3 45 x1.toNat) then bnd (f_S_pickOfGroup n (M3 45 x1.toNat) M3) (fun r7 M7 => lp_S_fewestToFree_53 n  n x1 (-1) 9 1 M7) else (some ((-9223372036854775808), M3)))))
def f_W_free (n : Nat) (x1 : Int) (M : Mm) : Rr := bnd (f_R_isFirm n x1 M) (fun r1 M1 => if r1 = 0 then some ((-9223372036854775808), M1) else (bnd (f_S_fewestToFree n x1 M1) (fun r3 M3 => some (r3, M3))))
def f_S_rulesHidden_69 (n : Nat) (k17 : Int → Int → Int → Int → Int → Mm → Rr) (x1 x2 x3 x4 x5 : Int) (M : Mm) : Rr := k17 x1 x2 x3 x4 (w32 (x5 + 1)) M
def f_S_rulesHidden_17 (n : Nat) (k17 : Int → Int → Int → Int → Int → Mm → Rr) (x1 x2 x3 x4 x5 : Int) (M : Mm) : Rr := if (M 1 4) ≤ x5 then bnd (f_U_least n  M) (fun r3 M3 => ck (0 ≤ x2 ∧ x2 < 16) (if (M3 45 x2.toNat) ≠ x1 then some (0, M3) else (some (1, M3)))) else (ck (0 ≤ x5 ∧ x5 < 40) (if x3 ≤ (M 22 x5.toNat) then f_S_rulesHidden_69 n k17 x1 x2 x3 x4 x5 M else (ck (0 ≤ x5 ∧ x5 < 40) (if (M 25 x5.toNat) = x4 then f_S_rulesHidden_69 n k17 x1 x2 x3 x4 x5 M else (bnd (f_U_suppose n x5 x4 M) (fun r13 M13 => f_S_rulesHidden_69 n k17 x1 x2 x3 x4 x5 M13))))))
def lp_S_rulesHidden_17 (n : Nat) : Nat → Int → Int → Int → Int → Int → Mm → Rr
  | 0, _, _, _, _, _, _ => none
  | f + 1, x1, x2, x3, x4, x5, M => f_S_rulesHidden_17 n (lp_S_rulesHidden_17 n f) x1 x2 x3 x4 x5 M
def f_S_rulesHidden (n : Nat) (x1 x2 x3 x4 : Int) (M : Mm) : Rr := bnd (f_U_look n (M 1 0) M) (fun r2 M2 => lp_S_rulesHidden_17 n  n x1 x2 x3 x4 0 M2)
def f_W_may_66 (n : Nat) (s1 s2 s3 s4 : Int) (M : Mm) : Rr := bnd (f_S_rulesHidden n s1 s2 s3 s4 M) (fun r1 M1 => if r1 = 0 then some (0, M1) else (some (1, M1)))
def f_W_may (n : Nat) (x1 x2 x3 x4 : Int) (M : Mm) : Rr := bnd (f_R_isRuler n x1 M) (fun r1 M1 => if r1 = 0 then some ((-1), M1) else (bnd (f_R_isFirm n x2 M1) (fun r3 M3 => if r3 = 0 then some ((-1), M3) else (if x4 < 0 then some ((-1), M3) else (if x4 ≤ 1 then if x3 < 0 then some ((-2), M3) else (if x3 ≤ 12 then if x4 ≠ 0 then f_W_may_66 n  x1 x2 x3 (-5) M3 else (f_W_may_66 n  x1 x2 x3 x1 M3) else (some ((-2), M3))) else (some ((-1), M3)))))))
def f_W_motion (n : Nat) (x1 x2 : Int) (M : Mm) : Rr := bnd (f_R_isSet n x1 M) (fun r1 M1 => if r1 = 0 then some ((-2), M1) else (bnd (f_R_isSet n x2 M1) (fun r3 M3 => if r3 = 0 then some ((-2), M3) else (if ian x1 x2 = 0 then if (M3 0 8) < 30 then ck (0 ≤ (M3 0 8) ∧ (M3 0 8) < 30) (ck (0 ≤ ((mset M3 11 (M3 0 8).toNat x1) 0 8) ∧ ((mset M3 11 (M3 0 8).toNat x1) 0 8) < 30) (some (w32 (((mset (mset (mset M3 11 (M3 0 8).toNat x1) 12 ((mset M3 11 (M3 0 8).toNat x1) 0 8).toNat x2) 0 8 (w32 (((mset (mset M3 11 (M3 0 8).toNat x1) 12 ((mset M3 11 (M3 0 8).toNat x1) 0 8).toNat x2) 0 8) + 1))) 0 8) - 1), (mset (mset (mset M3 11 (M3 0 8).toNat x1) 12 ((mset M3 11 (M3 0 8).toNat x1) 0 8).toNat x2) 0 8 (w32 (((mset (mset M3 11 (M3 0 8).toNat x1) 12 ((mset M3 11 (M3 0 8).toNat x1) 0 8).toNat x2) 0 8) + 1)))))) else (some ((-4), M3)) else (some ((-2), M3))))))
def f_W_timesAlike_5 (n : Nat) (k5 : Int → Int → Int → Int → Mm → Rr) (x1 x2 x3 x4 : Int) (M : Mm) : Rr := if (M 0 8) ≤ x4 then some (x3, M) else (ck (0 ≤ x4 ∧ x4 < 30) (ck (0 ≤ x4 ∧ x4 < 30) (ck (0 ≤ x4 ∧ x4 < 30) (ck (0 ≤ x4 ∧ x4 < 30) (k5 x1 x2 (w32 ((w32 (x3 + (ian (ian (isr (M 11 x4.toNat) x1) (isr (M 11 x4.toNat) x2)) 1))) + (ian (ian (isr (M 12 x4.toNat) x1) (isr (M 12 x4.toNat) x2)) 1))) (w32 (x4 + 1)) M)))))
def lp_W_timesAlike_5 (n : Nat) : Nat → Int → Int → Int → Int → Mm → Rr
  | 0, _, _, _, _, _ => none
  | f + 1, x1, x2, x3, x4, M => f_W_timesAlike_5 n (lp_W_timesAlike_5 n f) x1 x2 x3 x4 M
def f_W_timesAlike (n : Nat) (x1 x2 : Int) (M : Mm) : Rr := lp_W_timesAlike_5 n  n x1 x2 0 0 M
def f_W_timesApart_5 (n : Nat) (k5 : Int → Int → Int → Int → Mm → Rr) (x1 x2 x3 x4 : Int) (M : Mm) : Rr := if (M 0 8) ≤ x4 then some (x3, M) else (ck (0 ≤ x4 ∧ x4 < 30) (ck (0 ≤ x4 ∧ x4 < 30) (ck (0 ≤ x4 ∧ x4 < 30) (ck (0 ≤ x4 ∧ x4 < 30) (k5 x1 x2 (w32 ((w32 (x3 + (ian (ian (isr (M 11 x4.toNat) x1) (isr (M 12 x4.toNat) x2)) 1))) + (ian (ian (isr (M 12 x4.toNat) x1) (isr (M 11 x4.toNat) x2)) 1))) (w32 (x4 + 1)) M)))))
def lp_W_timesApart_5 (n : Nat) : Nat → Int → Int → Int → Int → Mm → Rr
  | 0, _, _, _, _, _ => none
  | f + 1, x1, x2, x3, x4, M => f_W_timesApart_5 n (lp_W_timesApart_5 n f) x1 x2 x3 x4 M
def f_W_timesApart (n : Nat) (x1 x2 : Int) (M : Mm) : Rr := lp_W_timesApart_5 n  n x1 x2 0 0 M
def f_W_alike (n : Nat) (x1 x2 x3 : Int) (M : Mm) : Rr := bnd (f_R_isHolder n x1 M) (fun r1 M1 => if r1 = 0 then some ((-1), M1) else (bnd (f_R_isHolder n x2 M1) (fun r3 M3 => if r3 = 0 then some ((-1), M3) else (if x3 < 0 then some ((-1), M3) else (if x3 ≤ 1 then if x1 ≠ x2 then if x3 ≠ 0 then bnd (f_W_timesApart n x1 x2 M3) (fun r9 M9 => some (r9, M9)) else (bnd (f_W_timesAlike n x1 x2 M3) (fun r10 M10 => some (r10, M10))) else (some ((-2), M3)) else (some ((-1), M3)))))))
def f_W_agreeingWith_69 (n : Nat) (k6 : Int → Int → Int → Int → Int → Mm → Rr) (x1 x2 x3 x4 x5 : Int) (M : Mm) : Rr := k6 x1 x2 x3 x4 (w32 (x5 + 1)) M
def f_W_agreeingWith_6 (n : Nat) (k6 : Int → Int → Int → Int → Int → Mm → Rr) (x1 x2 x3 x4 x5 : Int) (M : Mm) : Rr := if (M 1 1) ≤ x5 then some (x4, M) else (if ian (isr x3 x5) 1 ≠ 0 then f_W_agreeingWith_69 n k6 x1 x2 x3 x4 x5 M else (bnd (f_R_isPerson n x5 M) (fun r4 M4 => if r4 = 0 then f_W_agreeingWith_69 n k6 x1 x2 x3 x4 x5 M4 else (bnd (f_W_timesApart n x1 x5 M4) (fun r6 M6 => if r6 ≠ 0 then f_W_agreeingWith_69 n k6 x1 x2 x3 x4 x5 M6 else (bnd (f_W_timesAlike n x1 x5 M6) (fun r8 M8 => if r8 < x2 then f_W_agreeingWith_69 n k6 x1 x2 x3 x4 x5 M8 else (f_W_agreeingWith_69 n k6 x1 x2 x3 (ior x4 (ish 1 x5)) x5 M8))))))))
def lp_W_agreeingWith_6 (n : Nat) : Nat → Int → Int → Int → Int → Int → Mm → Rr
  | 0, _, _, _, _, _, _ => none
  | f + 1, x1, x2, x3, x4, x5, M => f_W_agreeingWith_6 n (lp_W_agreeingWith_6 n f) x1 x2 x3 x4 x5 M
def f_W_agreeingWith (n : Nat) (x1 x2 x3 : Int) (M : Mm) : Rr := lp_W_agreeingWith_6 n  n x1 x2 x3 0 0 M
def f_W_asOneWith_71 (n : Nat) (k10 : Int → Int → Int → Int → Mm → Rr) (k37 : Int → Int → Int → Int → Int → Int → Mm → Rr) (x2 x3 x4 x5 x6 x7 : Int) (M : Mm) : Rr := k37 x2 x3 x4 x5 x6 (w32 (x7 + 1)) M
def f_W_asOneWith_37 (n : Nat) (k10 : Int → Int → Int → Int → Mm → Rr) (k37 : Int → Int → Int → Int → Int → Int → Mm → Rr) (x2 x3 x4 x5 x6 x7 : Int) (M : Mm) : Rr := if (M 1 1) ≤ x7 then k10 x2 x3 x4 (w32 (x5 + 1)) M else (if ian (isr x6 x7) 1 ≠ 1 then f_W_asOneWith_71 n k10 k37 x2 x3 x4 x5 x6 x7 M else (bnd (f_W_agreeingWith n x7 x2 x3 M) (fun r4 M4 => f_W_asOneWith_71 n k10 k37 x2 (ior x3 r4) x4 x5 x6 x7 M4)))
def lp_W_asOneWith_37 (n : Nat) (k10 : Int → Int → Int → Int → Mm → Rr) : Nat → Int → Int → Int → Int → Int → Int → Mm → Rr
  | 0, _, _, _, _, _, _, _ => none
  | f + 1, x2, x3, x4, x5, x6, x7, M => f_W_asOneWith_37 n k10 (lp_W_asOneWith_37 n k10 f) x2 x3 x4 x5 x6 x7 M
def f_W_asOneWith_10 (n : Nat) (k10 : Int → Int → Int → Int → Mm → Rr) (x2 x3 x4 x5 : Int) (M : Mm) : Rr := if 16 ≤ x5 then some (x3, M) else (if x4 = x3 then some (x3, M) else (lp_W_asOneWith_37 n k10 n x2 x3 x3 x5 (ian x3 (ixo x4 (-1))) 0 M))
def lp_W_asOneWith_10 (n : Nat) : Nat → Int → Int → Int → Int → Mm → Rr
  | 0, _, _, _, _, _ => none
  | f + 1, x2, x3, x4, x5, M => f_W_asOneWith_10 n (lp_W_asOneWith_10 n f) x2 x3 x4 x5 M
def f_W_asOneWith (n : Nat) (x1 x2 : Int) (M : Mm) : Rr := lp_W_asOneWith_10 n  n x2 (ish 1 x1) 0 0 M
def f_W_found_85 (n : Nat) (k21 : Int → Int → Int → Int → Mm → Rr) (x1 x2 x3 x4 : Int) (M : Mm) : Rr := k21 x1 x2 x3 (w32 (x4 + 1)) M
def f_W_found_83 (n : Nat) (k21 : Int → Int → Int → Int → Mm → Rr) (x1 x3 x4 s0 s1 : Int) (M : Mm) : Rr := f_W_found_85 n k21 x1 (w32 (s0 + s1)) x3 x4 M
def f_W_found_21 (n : Nat) (k21 : Int → Int → Int → Int → Mm → Rr) (x1 x2 x3 x4 : Int) (M : Mm) : Rr := if (M 1 1) ≤ x4 then some (x2, M) else (bnd (f_R_isPerson n x4 M) (fun r3 M3 => if r3 = 0 then f_W_found_85 n k21 x1 x2 x3 x4 M3 else (if ian (isr x3 x4) 1 ≠ 0 then f_W_found_85 n k21 x1 x2 x3 x4 M3 else (bnd (f_W_asOneWith n x4 x1 M3) (fun r6 M6 => bnd (f_JI_bitCount n r6 M6) (fun r7 M7 => if r7 ≤ 1 then f_W_found_83 n k21 x1 (ior x3 r6) x4 x2 0 M7 else (f_W_found_83 n k21 x1 (ior x3 r6) x4 x2 1 M7)))))))
def lp_W_found_21 (n : Nat) : Nat → Int → Int → Int → Int → Mm → Rr
  | 0, _, _, _, _, _ => none
  | f + 1, x1, x2, x3, x4, M => f_W_found_21 n (lp_W_found_21 n f) x1 x2 x3 x4 M
def f_W_found (n : Nat) (x1 : Int) (M : Mm) : Rr := if x1 < 1 then some ((-2), M) else (if x1 ≤ 30 then lp_W_found_21 n  n x1 0 0 0 M else (some ((-2), M)))
def f_F_closes_97 (n : Nat) (rec : Nat → Int → Int → Mm → Rr) (k52 : Int → Int → Int → Int → Mm → Rr) (x2 x3 x4 x5 : Int) (M : Mm) : Rr := k52 x2 x3 x4 (w32 (x5 + 1)) M
def f_F_closes_52 (n : Nat) (rec : Nat → Int → Int → Mm → Rr) (k52 : Int → Int → Int → Int → Mm → Rr) (x2 x3 x4 x5 : Int) (M : Mm) : Rr := if 16 ≤ x5 then some (0, M) else (if 7 ≤ x2 then some (0, M) else (ck (0 ≤ x4 ∧ x4 < 16) (if ian (isr (M 58 x4.toNat) x5) 1 ≠ 1 then f_F_closes_97 n rec k52 x2 x3 x4 x5 M else (ck (0 ≤ x2 ∧ x2 < 7) (bnd (rec 0 (w32 (x2 + 1)) x3 (mset M 59 x2.toNat x5)) (fun r7 M7 => if r7 = 0 then f_F_closes_97 n rec k52 x2 x3 x4 x5 M7 else (some (1, M7))))))))
def lp_F_closes_52 (n : Nat) (rec : Nat → Int → Int → Mm → Rr) : Nat → Int → Int → Int → Int → Mm → Rr
  | 0, _, _, _, _, _ => none
  | f + 1, x2, x3, x4, x5, M => f_F_closes_52 n rec (lp_F_closes_52 n rec f) x2 x3 x4 x5 M
def f_F_closes (n : Nat) (rec : Nat → Int → Int → Mm → Rr) (x2 x3 : Int) (M : Mm) : Rr := if x2 < 1 then some (0, M) else (if x2 ≤ 7 then ck (0 ≤ w32 (x2 - 1) ∧ w32 (x2 - 1) < 7) (if x2 ≠ x3 then lp_F_closes_52 n rec  n x2 x3 (M 59 (w32 (x2 - 1)).toNat) (w32 ((M 59 (0 : Int).toNat) + 1)) M else (ck (0 ≤ (M 59 (w32 (x2 - 1)).toNat) ∧ (M 59 (w32 (x2 - 1)).toNat) < 16) (if ian (isr (M 58 (M 59 (w32 (x2 - 1)).toNat).toNat) (M 59 (0 : Int).toNat)) 1 ≠ 1 then some (0, M) else (some (1, M))))) else (some (0, M)))
def g_closes (n : Nat) : Nat → Nat → Int → Int → Mm → Rr
  | 0, _, _, _, _ => none
  | d + 1, _, x0, x1, M => f_F_closes n (g_closes n d) x0 x1 M
def f_F_findRing_118 (n : Nat) (k105 : Int → Mm → Rr) (k118 : Int → Int → Mm → Rr) (x1 x2 : Int) (M : Mm) : Rr := if (M 1 2) ≤ x2 then k105 (w32 (x1 + 1)) M else (ck (0 ≤ x2 ∧ x2 < 7) (bnd (g_closes n 10 0 1 x1 (mset M 59 (0 : Int).toNat (M 19 x2.toNat))) (fun r5 M5 => if r5 = 0 then k118 x1 (w32 (x2 + 1)) M5 else (some (x1, M5)))))
def lp_F_findRing_118 (n : Nat) (k105 : Int → Mm → Rr) : Nat → Int → Int → Mm → Rr
  | 0, _, _, _ => none
  | f + 1, x1, x2, M => f_F_findRing_118 n k105 (lp_F_findRing_118 n k105 f) x1 x2 M
def f_F_findRing_105 (n : Nat) (k105 : Int → Mm → Rr) (x1 : Int) (M : Mm) : Rr := if (M 1 2) < x1 then some (0, M) else (lp_F_findRing_118 n k105 n x1 0 M)
def lp_F_findRing_105 (n : Nat) : Nat → Int → Mm → Rr
  | 0, _, _ => none
  | f + 1, x1, M => f_F_findRing_105 n (lp_F_findRing_105 n f) x1 M
def f_F_findRing_89 (n : Nat) (k14 : Int → Mm → Rr) (k27 : Int → Int → Mm → Rr) (x1 x2 s1 s2 s3 : Int) (M : Mm) : Rr := ck (0 ≤ s1 ∧ s1 < 16) (k27 x1 (w32 (x2 + 1)) (mset M 58 s1.toNat (ior s2 s3)))
def f_F_findRing_27 (n : Nat) (k14 : Int → Mm → Rr) (k27 : Int → Int → Mm → Rr) (x1 x2 : Int) (M : Mm) : Rr := if (M 1 2) ≤ x2 then k14 (w32 (x1 + 1)) M else (ck (0 ≤ x2 ∧ x2 < 7) (ck (0 ≤ (M 19 x2.toNat) ∧ (M 19 x2.toNat) < 16) (ck (0 ≤ x1 ∧ x1 < 7) (ck (0 ≤ (M 19 x1.toNat) ∧ (M 19 x1.toNat) < 16) (ck (0 ≤ (M 19 x2.toNat) ∧ (M 19 x2.toNat) < 16) (if (M (180 + (M 19 x1.toNat).toNat) (M 19 x2.toNat).toNat) ≤ 0 then f_F_findRing_89 n k14 k27 x1 x2 (M 19 x2.toNat) (M 58 (M 19 x2.toNat).toNat) 0 M else (ck (0 ≤ x1 ∧ x1 < 7) (f_F_findRing_89 n k14 k27 x1 x2 (M 19 x2.toNat) (M 58 (M 19 x2.toNat).toNat) (ish 1 (M 19 x1.toNat)) M))))))))
def lp_F_findRing_27 (n : Nat) (k14 : Int → Mm → Rr) : Nat → Int → Int → Mm → Rr
  | 0, _, _, _ => none
  | f + 1, x1, x2, M => f_F_findRing_27 n k14 (lp_F_findRing_27 n k14 f) x1 x2 M
def f_F_findRing_14 (n : Nat) (k14 : Int → Mm → Rr) (x1 : Int) (M : Mm) : Rr := if (M 1 2) ≤ x1 then lp_F_findRing_105 n  n 1 M else (lp_F_findRing_27 n k14 n x1 0 M)
def lp_F_findRing_14 (n : Nat) : Nat → Int → Mm → Rr
  | 0, _, _ => none
  | f + 1, x1, M => f_F_findRing_14 n (lp_F_findRing_14 n f) x1 M
def f_F_findRing (n : Nat) (M : Mm) : Rr := bnd (f_F_load n  M) (fun r1 M1 => lp_F_findRing_14 n  n 0 (mfil M1 58 16 0))
def f_W_ring (n : Nat) (x1 : Int) (M : Mm) : Rr := if (-1) ≤ x1 then bnd (f_F_findRing n  M) (fun r2 M2 => if x1 ≠ (-1) then if r2 ≤ x1 then some ((-1), M2) else (ck (0 ≤ x1 ∧ x1 < 7) (some ((M2 59 x1.toNat), M2))) else (some (r2, M2))) else (some ((-1), M))
def f_F_listCuts_76 (n : Nat) (k18 : Int → Int → Mm → Rr) (x1 x2 : Int) (M : Mm) : Rr := k18 x1 (w32 (x2 + 1)) M
def f_F_listCuts_18 (n : Nat) (k18 : Int → Int → Mm → Rr) (x1 x2 : Int) (M : Mm) : Rr := if (M 1 4) ≤ x2 then some (x1, M) else (if 12 ≤ x1 then some (x1, M) else (ck (0 ≤ x2 ∧ x2 < 40) (if (M 22 x2.toNat) ≤ 0 then f_F_listCuts_76 n k18 x1 x2 M else (ck (0 ≤ x2 ∧ x2 < 40) (bnd (f_R_isFirm n (M 25 x2.toNat) M) (fun r9 M9 => if r9 = 0 then f_F_listCuts_76 n k18 x1 x2 M9 else (ck (0 ≤ x1 ∧ x1 < 12) (f_F_listCuts_76 n k18 (w32 (x1 + 1)) x2 (mset M9 60 x1.toNat x2)))))))))
def lp_F_listCuts_18 (n : Nat) : Nat → Int → Int → Mm → Rr
  | 0, _, _, _ => none
  | f + 1, x1, x2, M => f_F_listCuts_18 n (lp_F_listCuts_18 n f) x1 x2 M
def f_F_listCuts (n : Nat) (M : Mm) : Rr := bnd (f_R_lookAt n (M 1 0) M) (fun r2 M2 => lp_F_listCuts_18 n  n 0 0 M2)
def f_F_isRingWithout_145 (n : Nat) (k88 : Int → Int → Mm → Rr) (k98 : Int → Int → Int → Mm → Rr) (x4 x5 s0 s1 : Int) (M : Mm) : Rr := k98 (ian s0 s1) x4 (w32 (x5 + 1)) M
def f_F_isRingWithout_98 (n : Nat) (k88 : Int → Int → Mm → Rr) (k98 : Int → Int → Int → Mm → Rr) (x3 x4 x5 : Int) (M : Mm) : Rr := if (M 1 2) ≤ x5 then k88 x3 (w32 (x4 + 1)) M else (ck (0 ≤ x5 ∧ x5 < 7) (ck (0 ≤ (M 19 x5.toNat) ∧ (M 19 x5.toNat) < 16) (if ian (M 58 (M 19 x5.toNat).toNat) x3 ≠ 0 then f_F_isRingWithout_145 n k88 k98 x4 x5 x3 (-1) M else (f_F_isRingWithout_145 n k88 k98 x4 x5 x3 (ixo (ish 1 (M 19 x5.toNat)) (-1)) M))))
def lp_F_isRingWithout_98 (n : Nat) (k88 : Int → Int → Mm → Rr) : Nat → Int → Int → Int → Mm → Rr
  | 0, _, _, _, _ => none
  | f + 1, x3, x4, x5, M => f_F_isRingWithout_98 n k88 (lp_F_isRingWithout_98 n k88 f) x3 x4 x5 M
def f_F_isRingWithout_88 (n : Nat) (k88 : Int → Int → Mm → Rr) (x3 x4 : Int) (M : Mm) : Rr := if 7 ≤ x4 then if x3 = 0 then some (0, M) else (some (1, M)) else (lp_F_isRingWithout_98 n k88 n x3 x4 0 M)
def lp_F_isRingWithout_88 (n : Nat) : Nat → Int → Int → Mm → Rr
  | 0, _, _, _ => none
  | f + 1, x3, x4, M => f_F_isRingWithout_88 n (lp_F_isRingWithout_88 n f) x3 x4 M
def f_F_isRingWithout_79 (n : Nat) (k13 : Int → Int → Int → Int → Mm → Rr) (x1 x2 x3 x4 : Int) (M : Mm) : Rr := k13 x1 x2 x3 (w32 (x4 + 1)) M
def f_F_isRingWithout_13 (n : Nat) (k13 : Int → Int → Int → Int → Mm → Rr) (x1 x2 x3 x4 : Int) (M : Mm) : Rr := if x2 ≤ x4 then lp_F_isRingWithout_88 n  n x3 0 M else (if ian (isr x1 x4) 1 ≠ 0 then f_F_isRingWithout_79 n k13 x1 x2 x3 x4 M else (ck (0 ≤ x4 ∧ x4 < 12) (ck (0 ≤ (M 60 x4.toNat) ∧ (M 60 x4.toNat) < 40) (ck (0 ≤ (M 25 (M 60 x4.toNat).toNat) ∧ (M 25 (M 60 x4.toNat).toNat) < 16) (ck (0 ≤ x4 ∧ x4 < 12) (ck (0 ≤ (M 60 x4.toNat) ∧ (M 60 x4.toNat) < 40) (ck (0 ≤ (M 25 (M 60 x4.toNat).toNat) ∧ (M 25 (M 60 x4.toNat).toNat) < 16) (f_F_isRingWithout_79 n k13 x1 x2 (ior x3 (ish 1 (M 25 (M 60 x4.toNat).toNat))) x4 (mset M 58 (M 25 (M 60 x4.toNat).toNat).toNat (ior (M 58 (M 25 (M 60 x4.toNat).toNat).toNat) (ish 1 (M 21 (M 60 x4.toNat).toNat))))))))))))
def lp_F_isRingWithout_13 (n : Nat) : Nat → Int → Int → Int → Int → Mm → Rr
  | 0, _, _, _, _, _ => none
  | f + 1, x1, x2, x3, x4, M => f_F_isRingWithout_13 n (lp_F_isRingWithout_13 n f) x1 x2 x3 x4 M
def f_F_isRingWithout (n : Nat) (x1 x2 : Int) (M : Mm) : Rr := lp_F_isRingWithout_13 n  n x1 x2 0 0 (mfil M 58 16 0)
def f_F_fewestToBreak_92 (n : Nat) (k61 : Int → Int → Int → Int → Mm → Rr) (x1 x2 x6 s0 s1 : Int) (M : Mm) : Rr := k61 x1 x2 (lor s0 s1) (w32 (x6 + 1)) M
def f_F_fewestToBreak_61 (n : Nat) (k61 : Int → Int → Int → Int → Mm → Rr) (x1 x2 x4 x6 : Int) (M : Mm) : Rr := if x1 ≤ x6 then some (x4, M) else (if ian (isr x2 x6) 1 ≠ 1 then f_F_fewestToBreak_92 n k61 x1 x2 x6 x4 0 M else (ck (0 ≤ x6 ∧ x6 < 12) (f_F_fewestToBreak_92 n k61 x1 x2 x6 x4 (lsh 1 (M 60 x6.toNat)) M)))
def lp_F_fewestToBreak_61 (n : Nat) : Nat → Int → Int → Int → Int → Mm → Rr
  | 0, _, _, _, _, _ => none
  | f + 1, x1, x2, x4, x6, M => f_F_fewestToBreak_61 n (lp_F_fewestToBreak_61 n f) x1 x2 x4 x6 M
def f_F_fewestToBreak_49 (n : Nat) (k13 : Int → Int → Int → Int → Mm → Rr) (x1 x2 x3 x4 : Int) (M : Mm) : Rr := k13 x1 x2 x3 (w32 (x4 + 1)) M
def f_F_fewestToBreak_13 (n : Nat) (k13 : Int → Int → Int → Int → Mm → Rr) (x1 x2 x3 x4 : Int) (M : Mm) : Rr := if ish 1 x1 ≤ x4 then lp_F_fewestToBreak_61 n  n x1 x2 0 0 M else (bnd (f_JI_bitCount n x4 M) (fun r2 M2 => if x3 ≤ r2 then f_F_fewestToBreak_49 n k13 x1 x2 x3 x4 M2 else (bnd (f_F_isRingWithout n x4 x1 M2) (fun r4 M4 => if r4 ≠ 0 then f_F_fewestToBreak_49 n k13 x1 x2 x3 x4 M4 else (bnd (f_JI_bitCount n x4 M4) (fun r6 M6 => f_F_fewestToBreak_49 n k13 x1 x4 r6 x4 M6))))))
def lp_F_fewestToBreak_13 (n : Nat) : Nat → Int → Int → Int → Int → Mm → Rr
  | 0, _, _, _, _, _ => none
  | f + 1, x1, x2, x3, x4, M => f_F_fewestToBreak_13 n (lp_F_fewestToBreak_13 n f) x1 x2 x3 x4 M
def f_F_fewestToBreak (n : Nat) (M : Mm) : Rr := bnd (f_F_listCuts n  M) (fun r1 M1 => lp_F_fewestToBreak_13 n  n r1 0 13 0 M1)
def f_W_breaks (n : Nat) (M : Mm) : Rr := bnd (f_F_fewestToBreak n  M) (fun r1 M1 => some (r1, M1))
def f_W_trace_30 (n : Nat) (M : Mm) : Rr := some ((-1), M)
def f_W_trace (n : Nat) (x1 : Int) (M : Mm) : Rr := if x1 < 0 then f_W_trace_30 n   M else (if 20 ≤ x1 then f_W_trace_30 n   M else (if (M 10 (20 : Int).toNat) ≤ x1 then f_W_trace_30 n   M else (ck (0 ≤ x1 ∧ x1 < 21) (some ((M 10 x1.toNat), M)))))
def f_W_count (n : Nat) (x1 : Int) (M : Mm) : Rr := if x1 = 0 then some ((M 1 0), M) else (if x1 = 1 then some ((M 1 1), M) else (if x1 = 2 then some ((M 1 2), M) else (if x1 = 3 then some ((M 1 4), M) else (if x1 = 4 then bnd (f_R_sales n  M) (fun r10 M10 => some (r10, M10)) else (if x1 = 5 then some ((M 2 0), M) else (if x1 = 6 then some ((M 2 1), M) else (if x1 = 7 then some ((M 0 8), M) else (if x1 = 8 then some ((M 1 3), M) else (if x1 = 9 then some ((M 10 (20 : Int).toNat), M) else (some ((-2), M)))))))))))
def f_W_tape_67 (n : Nat) (x1 s1 s2 : Int) (M : Mm) : Rr := ck (0 ≤ s1 ∧ s1 < 6) (ck (0 ≤ x1 ∧ x1 < 6) (some (1, (mfil (mset M 14 s1.toNat s2) (100 + x1.toNat) 60 0))))
def f_W_tape_45 (n : Nat) (x1 x2 x3 : Int) (M : Mm) : Rr := ck (0 ≤ x1 ∧ x1 < 6) (if x2 ≠ (-1) then f_W_tape_67 n  x1 x1 x3 (mset M 13 x1.toNat x2) else (f_W_tape_67 n  x1 x1 0 (mset M 13 x1.toNat x2)))
def f_W_tape_33 (n : Nat) (x1 x2 x3 : Int) (M : Mm) : Rr := if x2 = (-1) then f_W_tape_45 n  x1 x2 x3 M else (if 0 ≤ x3 then f_W_tape_45 n  x1 x2 x3 M else (some ((-14), M)))
def f_W_tape (n : Nat) (x1 x2 x3 : Int) (M : Mm) : Rr := bnd (f_W_isTape n x1 M) (fun r1 M1 => if r1 ≠ 0 then if x2 < (-1) then some ((-2), M1) else (if 4 < x2 then some ((-2), M1) else (if x2 = (-1) then f_W_tape_33 n  x1 x2 x3 M1 else (if x3 ≤ 60 then f_W_tape_33 n  x1 x2 x3 M1 else (some ((-2), M1))))) else (some ((-1), M1)))
def f_W_cut (n : Nat) (x0 x2 : Int) (M : Mm) : Rr := if x2 = 0 then some (w8 (w32 x0), M) else (if x2 = 1 then some (w16 (w32 x0), M) else (if x2 = 2 then some (w32 x0, M) else (if x2 = 3 then some (x0, M) else (if x0 = 0 then some (0, M) else (some (1, M))))))
def f_W_item (n : Nat) (x1 x2 x3 : Int) (M : Mm) : Rr := bnd (f_W_isTape n x1 M) (fun r1 M1 => if r1 ≠ 0 then ck (0 ≤ x1 ∧ x1 < 6) (if (M1 13 x1.toNat) ≠ (-1) then bnd (f_W_hasPlaces n x1 x2 1 M1) (fun r6 M6 => if r6 ≠ 0 then ck (0 ≤ x1 ∧ x1 < 6) (ck (0 ≤ x1 ∧ x1 < 6) (bnd (f_W_cut n x3 (M6 13 x1.toNat) M6) (fun r11 M11 => ck (0 ≤ x2 ∧ x2 < 60) (some (1, (mset M11 (100 + x1.toNat) x2.toNat r11)))))) else (some ((-13), M6))) else (some ((-11), M1))) else (some ((-1), M1)))
def f_W_read_28 (n : Nat) (M : Mm) : Rr := some ((-9223372036854775808), M)
def f_W_read (n : Nat) (x1 x2 : Int) (M : Mm) : Rr := bnd (f_W_isTape n x1 M) (fun r1 M1 => if r1 = 0 then f_W_read_28 n   M1 else (bnd (f_W_hasPlaces n x1 x2 1 M1) (fun r3 M3 => if r3 = 0 then f_W_read_28 n   M3 else (ck (0 ≤ x1 ∧ x1 < 6) (ck (0 ≤ x2 ∧ x2 < 60) (some ((M3 (100 + x1.toNat) x2.toNat), M3)))))))
def f_W_shift (n : Nat) (x1 x2 x3 x4 x5 : Int) (M : Mm) : Rr := bnd (f_W_isTape n x1 M) (fun r1 M1 => if r1 = 0 then some ((-1), M1) else (bnd (f_W_isTape n x3 M1) (fun r3 M3 => if r3 ≠ 0 then ck (0 ≤ x1 ∧ x1 < 6) (if (M3 13 x1.toNat) = (-1) then some ((-11), M3) else (ck (0 ≤ x3 ∧ x3 < 6) (if (M3 13 x3.toNat) ≠ (-1) then ck (0 ≤ x1 ∧ x1 < 6) (ck (0 ≤ x3 ∧ x3 < 6) (if (M3 13 x1.toNat) = (M3 13 x3.toNat) then bnd (f_W_hasPlaces n x1 x2 x5 M3) (fun r15 M15 => if r15 = 0 then some ((-13), M15) else (bnd (f_W_hasPlaces n x3 x4 x5 M15) (fun r17 M17 => if r17 ≠ 0 then ck (0 ≤ x1 ∧ x1 < 6) (ck (0 ≤ x3 ∧ x3 < 6) (ck (0 ≤ x2 ∧ 0 ≤ x4 ∧ 0 ≤ x5 ∧ x2 + x5 ≤ 60 ∧ x4 + x5 ≤ 60) (some (x5, (mcpy M17 (100 + x1.toNat) x2.toNat (100 + x3.toNat) x4.toNat x5.toNat))))) else (some ((-13), M17))))) else (some ((-12), M3)))) else (some ((-11), M3))))) else (some ((-1), M3)))))
