/-! Written by wip/whole/gen. Facts of the layout; rows for the fields. -/
theorem lkR_0 : lk LR 0 = (4, 0, 0) := rfl
theorem lkR_1 : lk LR 1 = (0, 16, 0) := rfl
theorem lkR_2 : lk LR 2 = (0, 16, 0) := rfl
theorem lkR_3 : lk LR 3 = (0, 40, 0) := rfl
theorem lkR_4 : lk LR 4 = (0, 40, 0) := rfl
theorem lkR_5 : lk LR 5 = (0, 40, 0) := rfl
theorem lkR_6 : lk LR 6 = (0, 40, 0) := rfl
theorem lkR_7 : lk LR 7 = (0, 40, 0) := rfl
theorem lkR_8 : lk LR 8 = (0, 40, 0) := rfl
theorem lkR_9 : lk LR 9 = (0, 120, 0) := rfl
theorem lkR_10 : lk LR 10 = (0, 120, 0) := rfl
theorem lkR_11 : lk LR 11 = (0, 120, 0) := rfl
theorem lkR_12 : lk LR 12 = (0, 20, 0) := rfl
theorem lkR_13 : lk LR 13 = (0, 20, 0) := rfl
theorem lkR_14 : lk LR 14 = (0, 2100, 0) := rfl
theorem lkR_15 : lk LR 15 = (0, 21, 0) := rfl
theorem lkR_16 : lk LR 16 = (0, 5, 0) := rfl
theorem lkR_17 : lk LR 17 = (0, 5, 0) := rfl
theorem lkR_18 : lk LR 18 = (0, 5, 0) := rfl
theorem lkR_19 : lk LR 19 = (0, 5, 0) := rfl
theorem lkR_20 : lk LR 20 = (0, 101, 0) := rfl
theorem lkR_21 : lk LR 21 = (3, 101, 0) := rfl
theorem lkR_22 : lk LR 22 = (0, 40, 0) := rfl
theorem lkR_23 : lk LR 23 = (0, 40, 0) := rfl
theorem lkR_24 : lk LR 24 = (0, 256, 0) := rfl
theorem lkR_25 : lk LR 25 = (0, 16, 0) := rfl
theorem lkR_26 : lk LR 26 = (0, 16, 0) := rfl
theorem lkR_27 : lk LR 27 = (0, 16, 0) := rfl
theorem lkR_28 : lk LR 28 = (0, 16, 0) := rfl
theorem lkR_29 : lk LR 29 = (0, 16, 0) := rfl
theorem lkR_30 : lk LR 30 = (0, 7, 0) := rfl
theorem lkR_31 : lk LR 31 = (0, 16, 0) := rfl
theorem lkR_32 : lk LR 32 = (0, 7, 0) := rfl
theorem lkR_33 : lk LR 33 = (2, 56, 0) := rfl
theorem lkR_34 : lk LR 34 = (0, 7, 0) := rfl
theorem lkR_35 : lk LR 35 = (0, 16, 0) := rfl
theorem lkR_36 : lk LR 36 = (0, 16, 0) := rfl
theorem lkR_37 : lk LR 37 = (0, 16, 0) := rfl
theorem lkR_38 : lk LR 38 = (0, 12, 0) := rfl
theorem lkR_39 : lk LR 39 = (0, 16, 0) := rfl
theorem lkR_40 : lk LR 40 = (0, 30, 0) := rfl
theorem lkR_41 : lk LR 41 = (0, 30, 0) := rfl
theorem lkR_42 : lk LR 42 = (0, 16, 0) := rfl
theorem lkR_43 : lk LR 43 = (0, 16, 0) := rfl
theorem lkR_44 : lk LR 44 = (0, 16, 0) := rfl
theorem lkR_45 : lk LR 45 = (0, 7, 0) := rfl
theorem lkR_46 : lk LR 46 = (0, 20, 0) := rfl
theorem lkR_47 : lk LR 47 = (0, 6, 0) := rfl
theorem lkR_48 : lk LR 48 = (0, 6, 0) := rfl
theorem lkR_49 : lk LR 49 = (2, 360, 0) := rfl
theorem lkR_50 : lk LR 50 = (2, 60, 0) := rfl
theorem clR_0 : (lC LR)[0]? = some ("WhoRulesModel", T_m, 77) := rfl
theorem inR_0 : ∀ c ∈ u_ws "WhoRulesModel" T_m 77, c ∈ ALL := by
  intro c hc
  obtain ⟨k, hk, rfl⟩ := List.mem_map.mp hc
  have hk2 := List.mem_range.mp hk
  match k, hk2 with
  | 0, _ => exact all_in (w := Cond.lays "WhoRulesModel" "WhoRulesModel" "today" "I") 1383 (by decide +kernel) rfl
  | 1, _ => exact all_in (w := Cond.lays "WhoRulesModel" "WhoRulesModel" "holders" "I") 1385 (by decide +kernel) rfl
  | 2, _ => exact all_in (w := Cond.lays "WhoRulesModel" "WhoRulesModel" "firms" "I") 1387 (by decide +kernel) rfl
  | 3, _ => exact all_in (w := Cond.lays "WhoRulesModel" "WhoRulesModel" "shares" "I") 1389 (by decide +kernel) rfl
  | 4, _ => exact all_in (w := Cond.lays "WhoRulesModel" "WhoRulesModel" "sales" "I") 1391 (by decide +kernel) rfl
  | 5, _ => exact all_in (w := Cond.laysFinal "WhoRulesModel" "WhoRulesModel" "kind" "[I") 1393 (by decide +kernel) rfl
  | 6, _ => exact all_in (w := Cond.laysFinal "WhoRulesModel" "WhoRulesModel" "family" "[I") 1395 (by decide +kernel) rfl
  | 7, _ => exact all_in (w := Cond.laysFinal "WhoRulesModel" "WhoRulesModel" "shareFirm" "[I") 1397 (by decide +kernel) rfl
  | 8, _ => exact all_in (w := Cond.laysFinal "WhoRulesModel" "WhoRulesModel" "shareFirst" "[I") 1399 (by decide +kernel) rfl
  | 9, _ => exact all_in (w := Cond.laysFinal "WhoRulesModel" "WhoRulesModel" "parts" "[I") 1401 (by decide +kernel) rfl
  | 10, _ => exact all_in (w := Cond.laysFinal "WhoRulesModel" "WhoRulesModel" "votesOf" "[I") 1403 (by decide +kernel) rfl
  | 11, _ => exact all_in (w := Cond.laysFinal "WhoRulesModel" "WhoRulesModel" "priceOf" "[I") 1405 (by decide +kernel) rfl
  | 12, _ => exact all_in (w := Cond.laysFinal "WhoRulesModel" "WhoRulesModel" "shareCame" "[I") 1407 (by decide +kernel) rfl
  | 13, _ => exact all_in (w := Cond.laysFinal "WhoRulesModel" "WhoRulesModel" "saleShare" "[I") 1409 (by decide +kernel) rfl
  | 14, _ => exact all_in (w := Cond.laysFinal "WhoRulesModel" "WhoRulesModel" "saleTo" "[I") 1411 (by decide +kernel) rfl
  | 15, _ => exact all_in (w := Cond.laysFinal "WhoRulesModel" "WhoRulesModel" "saleDay" "[I") 1413 (by decide +kernel) rfl
  | 16, _ => exact all_in (w := Cond.lays "WhoRulesModel" "WhoRulesModel" "whose" "I") 1415 (by decide +kernel) rfl
  | 17, _ => exact all_in (w := Cond.lays "WhoRulesModel" "WhoRulesModel" "sinceDay" "I") 1417 (by decide +kernel) rfl
  | 18, _ => exact all_in (w := Cond.lays "WhoRulesModel" "WhoRulesModel" "charters" "I") 1419 (by decide +kernel) rfl
  | 19, _ => exact all_in (w := Cond.lays "WhoRulesModel" "WhoRulesModel" "fed" "I") 1421 (by decide +kernel) rfl
  | 20, _ => exact all_in (w := Cond.laysFinal "WhoRulesModel" "WhoRulesModel" "charterFirm" "[I") 1423 (by decide +kernel) rfl
  | 21, _ => exact all_in (w := Cond.laysFinal "WhoRulesModel" "WhoRulesModel" "charterDay" "[I") 1425 (by decide +kernel) rfl
  | 22, _ => exact all_in (w := Cond.laysFinal "WhoRulesModel" "WhoRulesModel" "text" "[I") 1427 (by decide +kernel) rfl
  | 23, _ => exact all_in (w := Cond.laysFinal "WhoRulesModel" "WhoRulesModel" "size" "[I") 1429 (by decide +kernel) rfl
  | 24, _ => exact all_in (w := Cond.laysFinal "WhoRulesModel" "WhoRulesModel" "facts" "[I") 1431 (by decide +kernel) rfl
  | 25, _ => exact all_in (w := Cond.laysFinal "WhoRulesModel" "WhoRulesModel" "placeAt" "[I") 1433 (by decide +kernel) rfl
  | 26, _ => exact all_in (w := Cond.laysFinal "WhoRulesModel" "WhoRulesModel" "firstAt" "[I") 1435 (by decide +kernel) rfl
  | 27, _ => exact all_in (w := Cond.laysFinal "WhoRulesModel" "WhoRulesModel" "secondAt" "[I") 1437 (by decide +kernel) rfl
  | 28, _ => exact all_in (w := Cond.lays "WhoRulesModel" "WhoRulesModel" "sleeps" "Z") 1439 (by decide +kernel) rfl
  | 29, _ => exact all_in (w := Cond.lays "WhoRulesModel" "WhoRulesModel" "base" "I") 1441 (by decide +kernel) rfl
  | 30, _ => exact all_in (w := Cond.lays "WhoRulesModel" "WhoRulesModel" "many" "I") 1443 (by decide +kernel) rfl
  | 31, _ => exact all_in (w := Cond.lays "WhoRulesModel" "WhoRulesModel" "at" "I") 1445 (by decide +kernel) rfl
  | 32, _ => exact all_in (w := Cond.lays "WhoRulesModel" "WhoRulesModel" "clauses" "I") 1447 (by decide +kernel) rfl
  | 33, _ => exact all_in (w := Cond.lays "WhoRulesModel" "WhoRulesModel" "digits" "I") 1449 (by decide +kernel) rfl
  | 34, _ => exact all_in (w := Cond.laysFinal "WhoRulesModel" "WhoRulesModel" "waits" "[I") 1451 (by decide +kernel) rfl
  | 35, _ => exact all_in (w := Cond.laysFinal "WhoRulesModel" "WhoRulesModel" "pile" "[Z") 1453 (by decide +kernel) rfl
  | 36, _ => exact all_in (w := Cond.lays "WhoRulesModel" "WhoRulesModel" "waiting" "I") 1455 (by decide +kernel) rfl
  | 37, _ => exact all_in (w := Cond.lays "WhoRulesModel" "WhoRulesModel" "piled" "I") 1457 (by decide +kernel) rfl
  | 38, _ => exact all_in (w := Cond.lays "WhoRulesModel" "WhoRulesModel" "open" "I") 1459 (by decide +kernel) rfl
  | 39, _ => exact all_in (w := Cond.laysFinal "WhoRulesModel" "WhoRulesModel" "nowHolder" "[I") 1461 (by decide +kernel) rfl
  | 40, _ => exact all_in (w := Cond.laysFinal "WhoRulesModel" "WhoRulesModel" "nowSince" "[I") 1463 (by decide +kernel) rfl
  | 41, _ => exact all_in (w := Cond.laysFinal "WhoRulesModel" "WhoRulesModel" "vote" "[I") 1465 (by decide +kernel) rfl
  | 42, _ => exact all_in (w := Cond.laysFinal "WhoRulesModel" "WhoRulesModel" "total" "[I") 1467 (by decide +kernel) rfl
  | 43, _ => exact all_in (w := Cond.laysFinal "WhoRulesModel" "WhoRulesModel" "needN" "[I") 1469 (by decide +kernel) rfl
  | 44, _ => exact all_in (w := Cond.laysFinal "WhoRulesModel" "WhoRulesModel" "needD" "[I") 1471 (by decide +kernel) rfl
  | 45, _ => exact all_in (w := Cond.laysFinal "WhoRulesModel" "WhoRulesModel" "gold" "[I") 1473 (by decide +kernel) rfl
  | 46, _ => exact all_in (w := Cond.laysFinal "WhoRulesModel" "WhoRulesModel" "ruledBy" "[I") 1475 (by decide +kernel) rfl
  | 47, _ => exact all_in (w := Cond.laysFinal "WhoRulesModel" "WhoRulesModel" "steps" "[I") 1477 (by decide +kernel) rfl
  | 48, _ => exact all_in (w := Cond.lays "WhoRulesModel" "WhoRulesModel" "stepMany" "I") 1479 (by decide +kernel) rfl
  | 49, _ => exact all_in (w := Cond.laysFinal "WhoRulesModel" "WhoRulesModel" "rulers" "[I") 1481 (by decide +kernel) rfl
  | 50, _ => exact all_in (w := Cond.laysFinal "WhoRulesModel" "WhoRulesModel" "firmAt" "[I") 1483 (by decide +kernel) rfl
  | 51, _ => exact all_in (w := Cond.lays "WhoRulesModel" "WhoRulesModel" "rulerMany" "I") 1485 (by decide +kernel) rfl
  | 52, _ => exact all_in (w := Cond.laysFinal "WhoRulesModel" "WhoRulesModel" "rows" "[J") 1487 (by decide +kernel) rfl
  | 53, _ => exact all_in (w := Cond.laysFinal "WhoRulesModel" "WhoRulesModel" "solid" "[I") 1489 (by decide +kernel) rfl
  | 54, _ => exact all_in (w := Cond.laysFinal "WhoRulesModel" "WhoRulesModel" "reach" "[I") 1491 (by decide +kernel) rfl
  | 55, _ => exact all_in (w := Cond.lays "WhoRulesModel" "WhoRulesModel" "solidMany" "I") 1493 (by decide +kernel) rfl
  | 56, _ => exact all_in (w := Cond.laysFinal "WhoRulesModel" "WhoRulesModel" "blockOf" "[I") 1495 (by decide +kernel) rfl
  | 57, _ => exact all_in (w := Cond.laysFinal "WhoRulesModel" "WhoRulesModel" "blocks" "[I") 1497 (by decide +kernel) rfl
  | 58, _ => exact all_in (w := Cond.laysFinal "WhoRulesModel" "WhoRulesModel" "goods" "[I") 1499 (by decide +kernel) rfl
  | 59, _ => exact all_in (w := Cond.laysFinal "WhoRulesModel" "WhoRulesModel" "wasRuled" "[I") 1501 (by decide +kernel) rfl
  | 60, _ => exact all_in (w := Cond.lays "WhoRulesModel" "WhoRulesModel" "goodMany" "I") 1503 (by decide +kernel) rfl
  | 61, _ => exact all_in (w := Cond.lays "WhoRulesModel" "WhoRulesModel" "boughtSet" "J") 1505 (by decide +kernel) rfl
  | 62, _ => exact all_in (w := Cond.lays "WhoRulesModel" "WhoRulesModel" "boughtPrice" "I") 1507 (by decide +kernel) rfl
  | 63, _ => exact all_in (w := Cond.lays "WhoRulesModel" "WhoRulesModel" "motions" "I") 1509 (by decide +kernel) rfl
  | 64, _ => exact all_in (w := Cond.laysFinal "WhoRulesModel" "WhoRulesModel" "yesOf" "[I") 1511 (by decide +kernel) rfl
  | 65, _ => exact all_in (w := Cond.laysFinal "WhoRulesModel" "WhoRulesModel" "noOf" "[I") 1513 (by decide +kernel) rfl
  | 66, _ => exact all_in (w := Cond.laysFinal "WhoRulesModel" "WhoRulesModel" "set0" "[I") 1515 (by decide +kernel) rfl
  | 67, _ => exact all_in (w := Cond.laysFinal "WhoRulesModel" "WhoRulesModel" "into" "[I") 1517 (by decide +kernel) rfl
  | 68, _ => exact all_in (w := Cond.laysFinal "WhoRulesModel" "WhoRulesModel" "toEnd" "[I") 1519 (by decide +kernel) rfl
  | 69, _ => exact all_in (w := Cond.laysFinal "WhoRulesModel" "WhoRulesModel" "ringRow" "[I") 1521 (by decide +kernel) rfl
  | 70, _ => exact all_in (w := Cond.lays "WhoRulesModel" "WhoRulesModel" "ringMany" "I") 1523 (by decide +kernel) rfl
  | 71, _ => exact all_in (w := Cond.lays "WhoRulesModel" "WhoRulesModel" "ran" "I") 1525 (by decide +kernel) rfl
  | 72, _ => exact all_in (w := Cond.laysFinal "WhoRulesModel" "WhoRulesModel" "bodies" "[I") 1527 (by decide +kernel) rfl
  | 73, _ => exact all_in (w := Cond.laysFinal "WhoRulesModel" "WhoRulesModel" "sort" "[I") 1529 (by decide +kernel) rfl
  | 74, _ => exact all_in (w := Cond.laysFinal "WhoRulesModel" "WhoRulesModel" "length" "[I") 1531 (by decide +kernel) rfl
  | 75, _ => exact all_in (w := Cond.laysFinal "WhoRulesModel" "WhoRulesModel" "item" "[J") 1533 (by decide +kernel) rfl
  | 76, _ => exact all_in (w := Cond.laysFinal "WhoRulesModel" "WhoRulesModel" "aside" "[J") 1535 (by decide +kernel) rfl
  | k + 77, h => exact absurd h (by omega)
theorem nmR_0 : ∀ a, a < 77 → ∀ b, b < 77 → a ≠ b → (T_m a).2.1 ≠ (T_m b).2.1 := by decide +kernel
theorem toR_0 : ∀ k, k < 77 → parseFieldDescriptor (T_m k).2.2.1 = some (ty_m k) := by decide +kernel
theorem flR_0_0 : (lf LR 0)[0]? = some (0, 0) := rfl
theorem flR_0_1 : (lf LR 0)[1]? = some (0, 0) := rfl
theorem flR_0_2 : (lf LR 0)[2]? = some (0, 0) := rfl
theorem flR_0_3 : (lf LR 0)[3]? = some (0, 0) := rfl
theorem flR_0_4 : (lf LR 0)[4]? = some (0, 0) := rfl
theorem flR_0_5 : (lf LR 0)[5]? = some (1, 1) := rfl
theorem flR_0_6 : (lf LR 0)[6]? = some (1, 2) := rfl
theorem flR_0_7 : (lf LR 0)[7]? = some (1, 3) := rfl
theorem flR_0_8 : (lf LR 0)[8]? = some (1, 4) := rfl
theorem flR_0_9 : (lf LR 0)[9]? = some (1, 5) := rfl
theorem flR_0_10 : (lf LR 0)[10]? = some (1, 6) := rfl
theorem flR_0_11 : (lf LR 0)[11]? = some (1, 7) := rfl
theorem flR_0_12 : (lf LR 0)[12]? = some (1, 8) := rfl
theorem flR_0_13 : (lf LR 0)[13]? = some (1, 9) := rfl
theorem flR_0_14 : (lf LR 0)[14]? = some (1, 10) := rfl
theorem flR_0_15 : (lf LR 0)[15]? = some (1, 11) := rfl
theorem flR_0_16 : (lf LR 0)[16]? = some (0, 0) := rfl
theorem flR_0_17 : (lf LR 0)[17]? = some (0, 0) := rfl
theorem flR_0_18 : (lf LR 0)[18]? = some (0, 0) := rfl
theorem flR_0_19 : (lf LR 0)[19]? = some (0, 0) := rfl
theorem flR_0_20 : (lf LR 0)[20]? = some (1, 12) := rfl
theorem flR_0_21 : (lf LR 0)[21]? = some (1, 13) := rfl
theorem flR_0_22 : (lf LR 0)[22]? = some (1, 14) := rfl
theorem flR_0_23 : (lf LR 0)[23]? = some (1, 15) := rfl
theorem flR_0_24 : (lf LR 0)[24]? = some (1, 16) := rfl
theorem flR_0_25 : (lf LR 0)[25]? = some (1, 17) := rfl
theorem flR_0_26 : (lf LR 0)[26]? = some (1, 18) := rfl
theorem flR_0_27 : (lf LR 0)[27]? = some (1, 19) := rfl
theorem flR_0_28 : (lf LR 0)[28]? = some (3, 0) := rfl
theorem flR_0_29 : (lf LR 0)[29]? = some (0, 0) := rfl
theorem flR_0_30 : (lf LR 0)[30]? = some (0, 0) := rfl
theorem flR_0_31 : (lf LR 0)[31]? = some (0, 0) := rfl
theorem flR_0_32 : (lf LR 0)[32]? = some (0, 0) := rfl
theorem flR_0_33 : (lf LR 0)[33]? = some (0, 0) := rfl
theorem flR_0_34 : (lf LR 0)[34]? = some (1, 20) := rfl
theorem flR_0_35 : (lf LR 0)[35]? = some (1, 21) := rfl
theorem flR_0_36 : (lf LR 0)[36]? = some (0, 0) := rfl
theorem flR_0_37 : (lf LR 0)[37]? = some (0, 0) := rfl
theorem flR_0_38 : (lf LR 0)[38]? = some (0, 0) := rfl
theorem flR_0_39 : (lf LR 0)[39]? = some (1, 22) := rfl
theorem flR_0_40 : (lf LR 0)[40]? = some (1, 23) := rfl
theorem flR_0_41 : (lf LR 0)[41]? = some (1, 24) := rfl
theorem flR_0_42 : (lf LR 0)[42]? = some (1, 25) := rfl
theorem flR_0_43 : (lf LR 0)[43]? = some (1, 26) := rfl
theorem flR_0_44 : (lf LR 0)[44]? = some (1, 27) := rfl
theorem flR_0_45 : (lf LR 0)[45]? = some (1, 28) := rfl
theorem flR_0_46 : (lf LR 0)[46]? = some (1, 29) := rfl
theorem flR_0_47 : (lf LR 0)[47]? = some (1, 30) := rfl
theorem flR_0_48 : (lf LR 0)[48]? = some (0, 0) := rfl
theorem flR_0_49 : (lf LR 0)[49]? = some (1, 31) := rfl
theorem flR_0_50 : (lf LR 0)[50]? = some (1, 32) := rfl
theorem flR_0_51 : (lf LR 0)[51]? = some (0, 0) := rfl
theorem flR_0_52 : (lf LR 0)[52]? = some (1, 33) := rfl
theorem flR_0_53 : (lf LR 0)[53]? = some (1, 34) := rfl
theorem flR_0_54 : (lf LR 0)[54]? = some (1, 35) := rfl
theorem flR_0_55 : (lf LR 0)[55]? = some (0, 0) := rfl
theorem flR_0_56 : (lf LR 0)[56]? = some (1, 36) := rfl
theorem flR_0_57 : (lf LR 0)[57]? = some (1, 37) := rfl
theorem flR_0_58 : (lf LR 0)[58]? = some (1, 38) := rfl
theorem flR_0_59 : (lf LR 0)[59]? = some (1, 39) := rfl
theorem flR_0_60 : (lf LR 0)[60]? = some (0, 0) := rfl
theorem flR_0_61 : (lf LR 0)[61]? = some (2, 0) := rfl
theorem flR_0_62 : (lf LR 0)[62]? = some (0, 0) := rfl
theorem flR_0_63 : (lf LR 0)[63]? = some (0, 0) := rfl
theorem flR_0_64 : (lf LR 0)[64]? = some (1, 40) := rfl
theorem flR_0_65 : (lf LR 0)[65]? = some (1, 41) := rfl
theorem flR_0_66 : (lf LR 0)[66]? = some (1, 42) := rfl
theorem flR_0_67 : (lf LR 0)[67]? = some (1, 43) := rfl
theorem flR_0_68 : (lf LR 0)[68]? = some (1, 44) := rfl
theorem flR_0_69 : (lf LR 0)[69]? = some (1, 45) := rfl
theorem flR_0_70 : (lf LR 0)[70]? = some (0, 0) := rfl
theorem flR_0_71 : (lf LR 0)[71]? = some (0, 0) := rfl
theorem flR_0_72 : (lf LR 0)[72]? = some (1, 46) := rfl
theorem flR_0_73 : (lf LR 0)[73]? = some (1, 47) := rfl
theorem flR_0_74 : (lf LR 0)[74]? = some (1, 48) := rfl
theorem flR_0_75 : (lf LR 0)[75]? = some (1, 49) := rfl
theorem flR_0_76 : (lf LR 0)[76]? = some (1, 50) := rfl
theorem q_1306 : Cond.fieldLink "WhoRulesModel" 7 "WhoRulesModel" "today" "I" ∈ ALL := all_in 1306 (by decide +kernel) rfl
theorem q_1307 : Cond.fieldLink "WhoRulesModel" 13 "WhoRulesModel" "holders" "I" ∈ ALL := all_in 1307 (by decide +kernel) rfl
theorem q_1308 : Cond.fieldLink "WhoRulesModel" 16 "WhoRulesModel" "firms" "I" ∈ ALL := all_in 1308 (by decide +kernel) rfl
theorem q_1309 : Cond.fieldLink "WhoRulesModel" 19 "WhoRulesModel" "shares" "I" ∈ ALL := all_in 1309 (by decide +kernel) rfl
theorem q_1310 : Cond.fieldLink "WhoRulesModel" 22 "WhoRulesModel" "sales" "I" ∈ ALL := all_in 1310 (by decide +kernel) rfl
theorem q_1311 : Cond.fieldLink "WhoRulesModel" 25 "WhoRulesModel" "kind" "[I" ∈ ALL := all_in 1311 (by decide +kernel) rfl
theorem q_1312 : Cond.fieldLink "WhoRulesModel" 29 "WhoRulesModel" "family" "[I" ∈ ALL := all_in 1312 (by decide +kernel) rfl
theorem q_1313 : Cond.fieldLink "WhoRulesModel" 32 "WhoRulesModel" "shareFirm" "[I" ∈ ALL := all_in 1313 (by decide +kernel) rfl
theorem q_1314 : Cond.fieldLink "WhoRulesModel" 35 "WhoRulesModel" "shareFirst" "[I" ∈ ALL := all_in 1314 (by decide +kernel) rfl
theorem q_1315 : Cond.fieldLink "WhoRulesModel" 38 "WhoRulesModel" "parts" "[I" ∈ ALL := all_in 1315 (by decide +kernel) rfl
theorem q_1316 : Cond.fieldLink "WhoRulesModel" 41 "WhoRulesModel" "votesOf" "[I" ∈ ALL := all_in 1316 (by decide +kernel) rfl
theorem q_1317 : Cond.fieldLink "WhoRulesModel" 44 "WhoRulesModel" "priceOf" "[I" ∈ ALL := all_in 1317 (by decide +kernel) rfl
theorem q_1318 : Cond.fieldLink "WhoRulesModel" 47 "WhoRulesModel" "shareCame" "[I" ∈ ALL := all_in 1318 (by decide +kernel) rfl
theorem q_1319 : Cond.fieldLink "WhoRulesModel" 50 "WhoRulesModel" "saleShare" "[I" ∈ ALL := all_in 1319 (by decide +kernel) rfl
theorem q_1320 : Cond.fieldLink "WhoRulesModel" 53 "WhoRulesModel" "saleTo" "[I" ∈ ALL := all_in 1320 (by decide +kernel) rfl
theorem q_1321 : Cond.fieldLink "WhoRulesModel" 56 "WhoRulesModel" "saleDay" "[I" ∈ ALL := all_in 1321 (by decide +kernel) rfl
theorem q_1322 : Cond.fieldLink "WhoRulesModel" 59 "WhoRulesModel" "whose" "I" ∈ ALL := all_in 1322 (by decide +kernel) rfl
theorem q_1323 : Cond.fieldLink "WhoRulesModel" 62 "WhoRulesModel" "sinceDay" "I" ∈ ALL := all_in 1323 (by decide +kernel) rfl
theorem q_1324 : Cond.fieldLink "WhoRulesModel" 65 "WhoRulesModel" "charters" "I" ∈ ALL := all_in 1324 (by decide +kernel) rfl
theorem q_1325 : Cond.fieldLink "WhoRulesModel" 68 "WhoRulesModel" "fed" "I" ∈ ALL := all_in 1325 (by decide +kernel) rfl
theorem q_1326 : Cond.fieldLink "WhoRulesModel" 71 "WhoRulesModel" "charterFirm" "[I" ∈ ALL := all_in 1326 (by decide +kernel) rfl
theorem q_1327 : Cond.fieldLink "WhoRulesModel" 74 "WhoRulesModel" "charterDay" "[I" ∈ ALL := all_in 1327 (by decide +kernel) rfl
theorem q_1328 : Cond.fieldLink "WhoRulesModel" 77 "WhoRulesModel" "text" "[I" ∈ ALL := all_in 1328 (by decide +kernel) rfl
theorem q_1329 : Cond.fieldLink "WhoRulesModel" 80 "WhoRulesModel" "size" "[I" ∈ ALL := all_in 1329 (by decide +kernel) rfl
theorem q_1330 : Cond.fieldLink "WhoRulesModel" 83 "WhoRulesModel" "facts" "[I" ∈ ALL := all_in 1330 (by decide +kernel) rfl
theorem q_1331 : Cond.fieldLink "WhoRulesModel" 86 "WhoRulesModel" "placeAt" "[I" ∈ ALL := all_in 1331 (by decide +kernel) rfl
theorem q_1332 : Cond.fieldLink "WhoRulesModel" 89 "WhoRulesModel" "firstAt" "[I" ∈ ALL := all_in 1332 (by decide +kernel) rfl
theorem q_1333 : Cond.fieldLink "WhoRulesModel" 92 "WhoRulesModel" "secondAt" "[I" ∈ ALL := all_in 1333 (by decide +kernel) rfl
theorem q_1334 : Cond.fieldLink "WhoRulesModel" 95 "WhoRulesModel" "sleeps" "Z" ∈ ALL := all_in 1334 (by decide +kernel) rfl
theorem q_1335 : Cond.fieldLink "WhoRulesModel" 99 "WhoRulesModel" "base" "I" ∈ ALL := all_in 1335 (by decide +kernel) rfl
theorem q_1336 : Cond.fieldLink "WhoRulesModel" 102 "WhoRulesModel" "many" "I" ∈ ALL := all_in 1336 (by decide +kernel) rfl
theorem q_1337 : Cond.fieldLink "WhoRulesModel" 105 "WhoRulesModel" "at" "I" ∈ ALL := all_in 1337 (by decide +kernel) rfl
theorem q_1338 : Cond.fieldLink "WhoRulesModel" 108 "WhoRulesModel" "clauses" "I" ∈ ALL := all_in 1338 (by decide +kernel) rfl
theorem q_1339 : Cond.fieldLink "WhoRulesModel" 111 "WhoRulesModel" "digits" "I" ∈ ALL := all_in 1339 (by decide +kernel) rfl
theorem q_1340 : Cond.fieldLink "WhoRulesModel" 114 "WhoRulesModel" "waits" "[I" ∈ ALL := all_in 1340 (by decide +kernel) rfl
theorem q_1341 : Cond.fieldLink "WhoRulesModel" 117 "WhoRulesModel" "pile" "[Z" ∈ ALL := all_in 1341 (by decide +kernel) rfl
theorem q_1342 : Cond.fieldLink "WhoRulesModel" 121 "WhoRulesModel" "waiting" "I" ∈ ALL := all_in 1342 (by decide +kernel) rfl
theorem q_1343 : Cond.fieldLink "WhoRulesModel" 124 "WhoRulesModel" "piled" "I" ∈ ALL := all_in 1343 (by decide +kernel) rfl
theorem q_1344 : Cond.fieldLink "WhoRulesModel" 127 "WhoRulesModel" "open" "I" ∈ ALL := all_in 1344 (by decide +kernel) rfl
theorem q_1345 : Cond.fieldLink "WhoRulesModel" 130 "WhoRulesModel" "nowHolder" "[I" ∈ ALL := all_in 1345 (by decide +kernel) rfl
theorem q_1346 : Cond.fieldLink "WhoRulesModel" 133 "WhoRulesModel" "nowSince" "[I" ∈ ALL := all_in 1346 (by decide +kernel) rfl
theorem q_1347 : Cond.fieldLink "WhoRulesModel" 136 "WhoRulesModel" "vote" "[I" ∈ ALL := all_in 1347 (by decide +kernel) rfl
theorem q_1348 : Cond.fieldLink "WhoRulesModel" 139 "WhoRulesModel" "total" "[I" ∈ ALL := all_in 1348 (by decide +kernel) rfl
theorem q_1349 : Cond.fieldLink "WhoRulesModel" 142 "WhoRulesModel" "needN" "[I" ∈ ALL := all_in 1349 (by decide +kernel) rfl
theorem q_1350 : Cond.fieldLink "WhoRulesModel" 145 "WhoRulesModel" "needD" "[I" ∈ ALL := all_in 1350 (by decide +kernel) rfl
theorem q_1351 : Cond.fieldLink "WhoRulesModel" 148 "WhoRulesModel" "gold" "[I" ∈ ALL := all_in 1351 (by decide +kernel) rfl
theorem q_1352 : Cond.fieldLink "WhoRulesModel" 151 "WhoRulesModel" "ruledBy" "[I" ∈ ALL := all_in 1352 (by decide +kernel) rfl
theorem q_1353 : Cond.fieldLink "WhoRulesModel" 154 "WhoRulesModel" "steps" "[I" ∈ ALL := all_in 1353 (by decide +kernel) rfl
theorem q_1354 : Cond.fieldLink "WhoRulesModel" 157 "WhoRulesModel" "stepMany" "I" ∈ ALL := all_in 1354 (by decide +kernel) rfl
theorem q_1355 : Cond.fieldLink "WhoRulesModel" 160 "WhoRulesModel" "rulers" "[I" ∈ ALL := all_in 1355 (by decide +kernel) rfl
theorem q_1356 : Cond.fieldLink "WhoRulesModel" 163 "WhoRulesModel" "firmAt" "[I" ∈ ALL := all_in 1356 (by decide +kernel) rfl
theorem q_1357 : Cond.fieldLink "WhoRulesModel" 166 "WhoRulesModel" "rulerMany" "I" ∈ ALL := all_in 1357 (by decide +kernel) rfl
theorem q_1358 : Cond.fieldLink "WhoRulesModel" 169 "WhoRulesModel" "rows" "[J" ∈ ALL := all_in 1358 (by decide +kernel) rfl
theorem q_1359 : Cond.fieldLink "WhoRulesModel" 173 "WhoRulesModel" "solid" "[I" ∈ ALL := all_in 1359 (by decide +kernel) rfl
theorem q_1360 : Cond.fieldLink "WhoRulesModel" 176 "WhoRulesModel" "reach" "[I" ∈ ALL := all_in 1360 (by decide +kernel) rfl
theorem q_1361 : Cond.fieldLink "WhoRulesModel" 179 "WhoRulesModel" "solidMany" "I" ∈ ALL := all_in 1361 (by decide +kernel) rfl
theorem q_1362 : Cond.fieldLink "WhoRulesModel" 182 "WhoRulesModel" "blockOf" "[I" ∈ ALL := all_in 1362 (by decide +kernel) rfl
theorem q_1363 : Cond.fieldLink "WhoRulesModel" 185 "WhoRulesModel" "blocks" "[I" ∈ ALL := all_in 1363 (by decide +kernel) rfl
theorem q_1364 : Cond.fieldLink "WhoRulesModel" 188 "WhoRulesModel" "goods" "[I" ∈ ALL := all_in 1364 (by decide +kernel) rfl
theorem q_1365 : Cond.fieldLink "WhoRulesModel" 191 "WhoRulesModel" "wasRuled" "[I" ∈ ALL := all_in 1365 (by decide +kernel) rfl
theorem q_1366 : Cond.fieldLink "WhoRulesModel" 194 "WhoRulesModel" "goodMany" "I" ∈ ALL := all_in 1366 (by decide +kernel) rfl
theorem q_1367 : Cond.fieldLink "WhoRulesModel" 197 "WhoRulesModel" "boughtSet" "J" ∈ ALL := all_in 1367 (by decide +kernel) rfl
theorem q_1368 : Cond.fieldLink "WhoRulesModel" 201 "WhoRulesModel" "boughtPrice" "I" ∈ ALL := all_in 1368 (by decide +kernel) rfl
theorem q_1369 : Cond.fieldLink "WhoRulesModel" 204 "WhoRulesModel" "motions" "I" ∈ ALL := all_in 1369 (by decide +kernel) rfl
theorem q_1370 : Cond.fieldLink "WhoRulesModel" 207 "WhoRulesModel" "yesOf" "[I" ∈ ALL := all_in 1370 (by decide +kernel) rfl
theorem q_1371 : Cond.fieldLink "WhoRulesModel" 210 "WhoRulesModel" "noOf" "[I" ∈ ALL := all_in 1371 (by decide +kernel) rfl
theorem q_1372 : Cond.fieldLink "WhoRulesModel" 213 "WhoRulesModel" "set0" "[I" ∈ ALL := all_in 1372 (by decide +kernel) rfl
theorem q_1373 : Cond.fieldLink "WhoRulesModel" 216 "WhoRulesModel" "into" "[I" ∈ ALL := all_in 1373 (by decide +kernel) rfl
theorem q_1374 : Cond.fieldLink "WhoRulesModel" 219 "WhoRulesModel" "toEnd" "[I" ∈ ALL := all_in 1374 (by decide +kernel) rfl
theorem q_1375 : Cond.fieldLink "WhoRulesModel" 222 "WhoRulesModel" "ringRow" "[I" ∈ ALL := all_in 1375 (by decide +kernel) rfl
theorem q_1376 : Cond.fieldLink "WhoRulesModel" 225 "WhoRulesModel" "ringMany" "I" ∈ ALL := all_in 1376 (by decide +kernel) rfl
theorem q_1377 : Cond.fieldLink "WhoRulesModel" 228 "WhoRulesModel" "ran" "I" ∈ ALL := all_in 1377 (by decide +kernel) rfl
theorem q_1378 : Cond.fieldLink "WhoRulesModel" 231 "WhoRulesModel" "bodies" "[I" ∈ ALL := all_in 1378 (by decide +kernel) rfl
theorem q_1379 : Cond.fieldLink "WhoRulesModel" 234 "WhoRulesModel" "sort" "[I" ∈ ALL := all_in 1379 (by decide +kernel) rfl
theorem q_1380 : Cond.fieldLink "WhoRulesModel" 237 "WhoRulesModel" "length" "[I" ∈ ALL := all_in 1380 (by decide +kernel) rfl
theorem q_1381 : Cond.fieldLink "WhoRulesModel" 240 "WhoRulesModel" "item" "[J" ∈ ALL := all_in 1381 (by decide +kernel) rfl
theorem q_1382 : Cond.fieldLink "WhoRulesModel" 243 "WhoRulesModel" "aside" "[J" ∈ ALL := all_in 1382 (by decide +kernel) rfl
theorem gfR_m_7 {w : Wd} {X : Cx} {cc : ByteArray} {nL fr lo t pc : Nat} {r : Int} {M1 M : Mm} {lv : List (Nat × Value)} {st : List Value} (G : Gc LR w X "WhoRulesModel" cc nL fr lo) (hdg : decode cc pc = .ok (.getfield 7, 3)) (kk : VJ LR w X nL t r M1 M lv (.int (i32 (M 0 0)) :: st) (pc + 3)) : VJ LR w X nL t r M1 M lv (.ref (wa w 0) :: st) pc := vj_getf G lkR_0 clR_0 inR_0 (j := 0) (by decide) q_1306 rfl (fvs_get flR_0_0) hdg kk
theorem gfR_m_13 {w : Wd} {X : Cx} {cc : ByteArray} {nL fr lo t pc : Nat} {r : Int} {M1 M : Mm} {lv : List (Nat × Value)} {st : List Value} (G : Gc LR w X "WhoRulesModel" cc nL fr lo) (hdg : decode cc pc = .ok (.getfield 13, 3)) (kk : VJ LR w X nL t r M1 M lv (.int (i32 (M 0 1)) :: st) (pc + 3)) : VJ LR w X nL t r M1 M lv (.ref (wa w 0) :: st) pc := vj_getf G lkR_0 clR_0 inR_0 (j := 1) (by decide) q_1307 rfl (fvs_get flR_0_1) hdg kk
theorem gfR_m_16 {w : Wd} {X : Cx} {cc : ByteArray} {nL fr lo t pc : Nat} {r : Int} {M1 M : Mm} {lv : List (Nat × Value)} {st : List Value} (G : Gc LR w X "WhoRulesModel" cc nL fr lo) (hdg : decode cc pc = .ok (.getfield 16, 3)) (kk : VJ LR w X nL t r M1 M lv (.int (i32 (M 0 2)) :: st) (pc + 3)) : VJ LR w X nL t r M1 M lv (.ref (wa w 0) :: st) pc := vj_getf G lkR_0 clR_0 inR_0 (j := 2) (by decide) q_1308 rfl (fvs_get flR_0_2) hdg kk
theorem gfR_m_19 {w : Wd} {X : Cx} {cc : ByteArray} {nL fr lo t pc : Nat} {r : Int} {M1 M : Mm} {lv : List (Nat × Value)} {st : List Value} (G : Gc LR w X "WhoRulesModel" cc nL fr lo) (hdg : decode cc pc = .ok (.getfield 19, 3)) (kk : VJ LR w X nL t r M1 M lv (.int (i32 (M 0 3)) :: st) (pc + 3)) : VJ LR w X nL t r M1 M lv (.ref (wa w 0) :: st) pc := vj_getf G lkR_0 clR_0 inR_0 (j := 3) (by decide) q_1309 rfl (fvs_get flR_0_3) hdg kk
theorem gfR_m_22 {w : Wd} {X : Cx} {cc : ByteArray} {nL fr lo t pc : Nat} {r : Int} {M1 M : Mm} {lv : List (Nat × Value)} {st : List Value} (G : Gc LR w X "WhoRulesModel" cc nL fr lo) (hdg : decode cc pc = .ok (.getfield 22, 3)) (kk : VJ LR w X nL t r M1 M lv (.int (i32 (M 0 4)) :: st) (pc + 3)) : VJ LR w X nL t r M1 M lv (.ref (wa w 0) :: st) pc := vj_getf G lkR_0 clR_0 inR_0 (j := 4) (by decide) q_1310 rfl (fvs_get flR_0_4) hdg kk
theorem gfR_m_25 {w : Wd} {X : Cx} {cc : ByteArray} {nL fr lo t pc : Nat} {r : Int} {M1 M : Mm} {lv : List (Nat × Value)} {st : List Value} (G : Gc LR w X "WhoRulesModel" cc nL fr lo) (hdg : decode cc pc = .ok (.getfield 25, 3)) (kk : VJ LR w X nL t r M1 M lv (.ref (wa w 1) :: st) (pc + 3)) : VJ LR w X nL t r M1 M lv (.ref (wa w 0) :: st) pc := vj_getf G lkR_0 clR_0 inR_0 (j := 5) (by decide) q_1311 rfl (fvs_get flR_0_5) hdg kk
theorem gfR_m_29 {w : Wd} {X : Cx} {cc : ByteArray} {nL fr lo t pc : Nat} {r : Int} {M1 M : Mm} {lv : List (Nat × Value)} {st : List Value} (G : Gc LR w X "WhoRulesModel" cc nL fr lo) (hdg : decode cc pc = .ok (.getfield 29, 3)) (kk : VJ LR w X nL t r M1 M lv (.ref (wa w 2) :: st) (pc + 3)) : VJ LR w X nL t r M1 M lv (.ref (wa w 0) :: st) pc := vj_getf G lkR_0 clR_0 inR_0 (j := 6) (by decide) q_1312 rfl (fvs_get flR_0_6) hdg kk
theorem gfR_m_32 {w : Wd} {X : Cx} {cc : ByteArray} {nL fr lo t pc : Nat} {r : Int} {M1 M : Mm} {lv : List (Nat × Value)} {st : List Value} (G : Gc LR w X "WhoRulesModel" cc nL fr lo) (hdg : decode cc pc = .ok (.getfield 32, 3)) (kk : VJ LR w X nL t r M1 M lv (.ref (wa w 3) :: st) (pc + 3)) : VJ LR w X nL t r M1 M lv (.ref (wa w 0) :: st) pc := vj_getf G lkR_0 clR_0 inR_0 (j := 7) (by decide) q_1313 rfl (fvs_get flR_0_7) hdg kk
theorem gfR_m_35 {w : Wd} {X : Cx} {cc : ByteArray} {nL fr lo t pc : Nat} {r : Int} {M1 M : Mm} {lv : List (Nat × Value)} {st : List Value} (G : Gc LR w X "WhoRulesModel" cc nL fr lo) (hdg : decode cc pc = .ok (.getfield 35, 3)) (kk : VJ LR w X nL t r M1 M lv (.ref (wa w 4) :: st) (pc + 3)) : VJ LR w X nL t r M1 M lv (.ref (wa w 0) :: st) pc := vj_getf G lkR_0 clR_0 inR_0 (j := 8) (by decide) q_1314 rfl (fvs_get flR_0_8) hdg kk
theorem gfR_m_38 {w : Wd} {X : Cx} {cc : ByteArray} {nL fr lo t pc : Nat} {r : Int} {M1 M : Mm} {lv : List (Nat × Value)} {st : List Value} (G : Gc LR w X "WhoRulesModel" cc nL fr lo) (hdg : decode cc pc = .ok (.getfield 38, 3)) (kk : VJ LR w X nL t r M1 M lv (.ref (wa w 5) :: st) (pc + 3)) : VJ LR w X nL t r M1 M lv (.ref (wa w 0) :: st) pc := vj_getf G lkR_0 clR_0 inR_0 (j := 9) (by decide) q_1315 rfl (fvs_get flR_0_9) hdg kk
theorem gfR_m_41 {w : Wd} {X : Cx} {cc : ByteArray} {nL fr lo t pc : Nat} {r : Int} {M1 M : Mm} {lv : List (Nat × Value)} {st : List Value} (G : Gc LR w X "WhoRulesModel" cc nL fr lo) (hdg : decode cc pc = .ok (.getfield 41, 3)) (kk : VJ LR w X nL t r M1 M lv (.ref (wa w 6) :: st) (pc + 3)) : VJ LR w X nL t r M1 M lv (.ref (wa w 0) :: st) pc := vj_getf G lkR_0 clR_0 inR_0 (j := 10) (by decide) q_1316 rfl (fvs_get flR_0_10) hdg kk
theorem gfR_m_44 {w : Wd} {X : Cx} {cc : ByteArray} {nL fr lo t pc : Nat} {r : Int} {M1 M : Mm} {lv : List (Nat × Value)} {st : List Value} (G : Gc LR w X "WhoRulesModel" cc nL fr lo) (hdg : decode cc pc = .ok (.getfield 44, 3)) (kk : VJ LR w X nL t r M1 M lv (.ref (wa w 7) :: st) (pc + 3)) : VJ LR w X nL t r M1 M lv (.ref (wa w 0) :: st) pc := vj_getf G lkR_0 clR_0 inR_0 (j := 11) (by decide) q_1317 rfl (fvs_get flR_0_11) hdg kk
theorem gfR_m_47 {w : Wd} {X : Cx} {cc : ByteArray} {nL fr lo t pc : Nat} {r : Int} {M1 M : Mm} {lv : List (Nat × Value)} {st : List Value} (G : Gc LR w X "WhoRulesModel" cc nL fr lo) (hdg : decode cc pc = .ok (.getfield 47, 3)) (kk : VJ LR w X nL t r M1 M lv (.ref (wa w 8) :: st) (pc + 3)) : VJ LR w X nL t r M1 M lv (.ref (wa w 0) :: st) pc := vj_getf G lkR_0 clR_0 inR_0 (j := 12) (by decide) q_1318 rfl (fvs_get flR_0_12) hdg kk
theorem gfR_m_50 {w : Wd} {X : Cx} {cc : ByteArray} {nL fr lo t pc : Nat} {r : Int} {M1 M : Mm} {lv : List (Nat × Value)} {st : List Value} (G : Gc LR w X "WhoRulesModel" cc nL fr lo) (hdg : decode cc pc = .ok (.getfield 50, 3)) (kk : VJ LR w X nL t r M1 M lv (.ref (wa w 9) :: st) (pc + 3)) : VJ LR w X nL t r M1 M lv (.ref (wa w 0) :: st) pc := vj_getf G lkR_0 clR_0 inR_0 (j := 13) (by decide) q_1319 rfl (fvs_get flR_0_13) hdg kk
theorem gfR_m_53 {w : Wd} {X : Cx} {cc : ByteArray} {nL fr lo t pc : Nat} {r : Int} {M1 M : Mm} {lv : List (Nat × Value)} {st : List Value} (G : Gc LR w X "WhoRulesModel" cc nL fr lo) (hdg : decode cc pc = .ok (.getfield 53, 3)) (kk : VJ LR w X nL t r M1 M lv (.ref (wa w 10) :: st) (pc + 3)) : VJ LR w X nL t r M1 M lv (.ref (wa w 0) :: st) pc := vj_getf G lkR_0 clR_0 inR_0 (j := 14) (by decide) q_1320 rfl (fvs_get flR_0_14) hdg kk
theorem gfR_m_56 {w : Wd} {X : Cx} {cc : ByteArray} {nL fr lo t pc : Nat} {r : Int} {M1 M : Mm} {lv : List (Nat × Value)} {st : List Value} (G : Gc LR w X "WhoRulesModel" cc nL fr lo) (hdg : decode cc pc = .ok (.getfield 56, 3)) (kk : VJ LR w X nL t r M1 M lv (.ref (wa w 11) :: st) (pc + 3)) : VJ LR w X nL t r M1 M lv (.ref (wa w 0) :: st) pc := vj_getf G lkR_0 clR_0 inR_0 (j := 15) (by decide) q_1321 rfl (fvs_get flR_0_15) hdg kk
theorem gfR_m_59 {w : Wd} {X : Cx} {cc : ByteArray} {nL fr lo t pc : Nat} {r : Int} {M1 M : Mm} {lv : List (Nat × Value)} {st : List Value} (G : Gc LR w X "WhoRulesModel" cc nL fr lo) (hdg : decode cc pc = .ok (.getfield 59, 3)) (kk : VJ LR w X nL t r M1 M lv (.int (i32 (M 0 16)) :: st) (pc + 3)) : VJ LR w X nL t r M1 M lv (.ref (wa w 0) :: st) pc := vj_getf G lkR_0 clR_0 inR_0 (j := 16) (by decide) q_1322 rfl (fvs_get flR_0_16) hdg kk
theorem gfR_m_62 {w : Wd} {X : Cx} {cc : ByteArray} {nL fr lo t pc : Nat} {r : Int} {M1 M : Mm} {lv : List (Nat × Value)} {st : List Value} (G : Gc LR w X "WhoRulesModel" cc nL fr lo) (hdg : decode cc pc = .ok (.getfield 62, 3)) (kk : VJ LR w X nL t r M1 M lv (.int (i32 (M 0 17)) :: st) (pc + 3)) : VJ LR w X nL t r M1 M lv (.ref (wa w 0) :: st) pc := vj_getf G lkR_0 clR_0 inR_0 (j := 17) (by decide) q_1323 rfl (fvs_get flR_0_17) hdg kk
theorem gfR_m_65 {w : Wd} {X : Cx} {cc : ByteArray} {nL fr lo t pc : Nat} {r : Int} {M1 M : Mm} {lv : List (Nat × Value)} {st : List Value} (G : Gc LR w X "WhoRulesModel" cc nL fr lo) (hdg : decode cc pc = .ok (.getfield 65, 3)) (kk : VJ LR w X nL t r M1 M lv (.int (i32 (M 0 18)) :: st) (pc + 3)) : VJ LR w X nL t r M1 M lv (.ref (wa w 0) :: st) pc := vj_getf G lkR_0 clR_0 inR_0 (j := 18) (by decide) q_1324 rfl (fvs_get flR_0_18) hdg kk
theorem gfR_m_68 {w : Wd} {X : Cx} {cc : ByteArray} {nL fr lo t pc : Nat} {r : Int} {M1 M : Mm} {lv : List (Nat × Value)} {st : List Value} (G : Gc LR w X "WhoRulesModel" cc nL fr lo) (hdg : decode cc pc = .ok (.getfield 68, 3)) (kk : VJ LR w X nL t r M1 M lv (.int (i32 (M 0 19)) :: st) (pc + 3)) : VJ LR w X nL t r M1 M lv (.ref (wa w 0) :: st) pc := vj_getf G lkR_0 clR_0 inR_0 (j := 19) (by decide) q_1325 rfl (fvs_get flR_0_19) hdg kk
theorem gfR_m_71 {w : Wd} {X : Cx} {cc : ByteArray} {nL fr lo t pc : Nat} {r : Int} {M1 M : Mm} {lv : List (Nat × Value)} {st : List Value} (G : Gc LR w X "WhoRulesModel" cc nL fr lo) (hdg : decode cc pc = .ok (.getfield 71, 3)) (kk : VJ LR w X nL t r M1 M lv (.ref (wa w 12) :: st) (pc + 3)) : VJ LR w X nL t r M1 M lv (.ref (wa w 0) :: st) pc := vj_getf G lkR_0 clR_0 inR_0 (j := 20) (by decide) q_1326 rfl (fvs_get flR_0_20) hdg kk
theorem gfR_m_74 {w : Wd} {X : Cx} {cc : ByteArray} {nL fr lo t pc : Nat} {r : Int} {M1 M : Mm} {lv : List (Nat × Value)} {st : List Value} (G : Gc LR w X "WhoRulesModel" cc nL fr lo) (hdg : decode cc pc = .ok (.getfield 74, 3)) (kk : VJ LR w X nL t r M1 M lv (.ref (wa w 13) :: st) (pc + 3)) : VJ LR w X nL t r M1 M lv (.ref (wa w 0) :: st) pc := vj_getf G lkR_0 clR_0 inR_0 (j := 21) (by decide) q_1327 rfl (fvs_get flR_0_21) hdg kk
theorem gfR_m_77 {w : Wd} {X : Cx} {cc : ByteArray} {nL fr lo t pc : Nat} {r : Int} {M1 M : Mm} {lv : List (Nat × Value)} {st : List Value} (G : Gc LR w X "WhoRulesModel" cc nL fr lo) (hdg : decode cc pc = .ok (.getfield 77, 3)) (kk : VJ LR w X nL t r M1 M lv (.ref (wa w 14) :: st) (pc + 3)) : VJ LR w X nL t r M1 M lv (.ref (wa w 0) :: st) pc := vj_getf G lkR_0 clR_0 inR_0 (j := 22) (by decide) q_1328 rfl (fvs_get flR_0_22) hdg kk
theorem gfR_m_80 {w : Wd} {X : Cx} {cc : ByteArray} {nL fr lo t pc : Nat} {r : Int} {M1 M : Mm} {lv : List (Nat × Value)} {st : List Value} (G : Gc LR w X "WhoRulesModel" cc nL fr lo) (hdg : decode cc pc = .ok (.getfield 80, 3)) (kk : VJ LR w X nL t r M1 M lv (.ref (wa w 15) :: st) (pc + 3)) : VJ LR w X nL t r M1 M lv (.ref (wa w 0) :: st) pc := vj_getf G lkR_0 clR_0 inR_0 (j := 23) (by decide) q_1329 rfl (fvs_get flR_0_23) hdg kk
theorem gfR_m_83 {w : Wd} {X : Cx} {cc : ByteArray} {nL fr lo t pc : Nat} {r : Int} {M1 M : Mm} {lv : List (Nat × Value)} {st : List Value} (G : Gc LR w X "WhoRulesModel" cc nL fr lo) (hdg : decode cc pc = .ok (.getfield 83, 3)) (kk : VJ LR w X nL t r M1 M lv (.ref (wa w 16) :: st) (pc + 3)) : VJ LR w X nL t r M1 M lv (.ref (wa w 0) :: st) pc := vj_getf G lkR_0 clR_0 inR_0 (j := 24) (by decide) q_1330 rfl (fvs_get flR_0_24) hdg kk
theorem gfR_m_86 {w : Wd} {X : Cx} {cc : ByteArray} {nL fr lo t pc : Nat} {r : Int} {M1 M : Mm} {lv : List (Nat × Value)} {st : List Value} (G : Gc LR w X "WhoRulesModel" cc nL fr lo) (hdg : decode cc pc = .ok (.getfield 86, 3)) (kk : VJ LR w X nL t r M1 M lv (.ref (wa w 17) :: st) (pc + 3)) : VJ LR w X nL t r M1 M lv (.ref (wa w 0) :: st) pc := vj_getf G lkR_0 clR_0 inR_0 (j := 25) (by decide) q_1331 rfl (fvs_get flR_0_25) hdg kk
theorem gfR_m_89 {w : Wd} {X : Cx} {cc : ByteArray} {nL fr lo t pc : Nat} {r : Int} {M1 M : Mm} {lv : List (Nat × Value)} {st : List Value} (G : Gc LR w X "WhoRulesModel" cc nL fr lo) (hdg : decode cc pc = .ok (.getfield 89, 3)) (kk : VJ LR w X nL t r M1 M lv (.ref (wa w 18) :: st) (pc + 3)) : VJ LR w X nL t r M1 M lv (.ref (wa w 0) :: st) pc := vj_getf G lkR_0 clR_0 inR_0 (j := 26) (by decide) q_1332 rfl (fvs_get flR_0_26) hdg kk
theorem gfR_m_92 {w : Wd} {X : Cx} {cc : ByteArray} {nL fr lo t pc : Nat} {r : Int} {M1 M : Mm} {lv : List (Nat × Value)} {st : List Value} (G : Gc LR w X "WhoRulesModel" cc nL fr lo) (hdg : decode cc pc = .ok (.getfield 92, 3)) (kk : VJ LR w X nL t r M1 M lv (.ref (wa w 19) :: st) (pc + 3)) : VJ LR w X nL t r M1 M lv (.ref (wa w 0) :: st) pc := vj_getf G lkR_0 clR_0 inR_0 (j := 27) (by decide) q_1333 rfl (fvs_get flR_0_27) hdg kk
theorem gfR_m_95 {w : Wd} {X : Cx} {cc : ByteArray} {nL fr lo t pc : Nat} {r : Int} {M1 M : Mm} {lv : List (Nat × Value)} {st : List Value} (G : Gc LR w X "WhoRulesModel" cc nL fr lo) (hdg : decode cc pc = .ok (.getfield 95, 3)) (kk : VJ LR w X nL t r M1 M lv (.int (i32 (M 0 28)) :: st) (pc + 3)) : VJ LR w X nL t r M1 M lv (.ref (wa w 0) :: st) pc := vj_getf G lkR_0 clR_0 inR_0 (j := 28) (by decide) q_1334 rfl (fvs_get flR_0_28) hdg kk
theorem gfR_m_99 {w : Wd} {X : Cx} {cc : ByteArray} {nL fr lo t pc : Nat} {r : Int} {M1 M : Mm} {lv : List (Nat × Value)} {st : List Value} (G : Gc LR w X "WhoRulesModel" cc nL fr lo) (hdg : decode cc pc = .ok (.getfield 99, 3)) (kk : VJ LR w X nL t r M1 M lv (.int (i32 (M 0 29)) :: st) (pc + 3)) : VJ LR w X nL t r M1 M lv (.ref (wa w 0) :: st) pc := vj_getf G lkR_0 clR_0 inR_0 (j := 29) (by decide) q_1335 rfl (fvs_get flR_0_29) hdg kk
theorem gfR_m_102 {w : Wd} {X : Cx} {cc : ByteArray} {nL fr lo t pc : Nat} {r : Int} {M1 M : Mm} {lv : List (Nat × Value)} {st : List Value} (G : Gc LR w X "WhoRulesModel" cc nL fr lo) (hdg : decode cc pc = .ok (.getfield 102, 3)) (kk : VJ LR w X nL t r M1 M lv (.int (i32 (M 0 30)) :: st) (pc + 3)) : VJ LR w X nL t r M1 M lv (.ref (wa w 0) :: st) pc := vj_getf G lkR_0 clR_0 inR_0 (j := 30) (by decide) q_1336 rfl (fvs_get flR_0_30) hdg kk
theorem gfR_m_105 {w : Wd} {X : Cx} {cc : ByteArray} {nL fr lo t pc : Nat} {r : Int} {M1 M : Mm} {lv : List (Nat × Value)} {st : List Value} (G : Gc LR w X "WhoRulesModel" cc nL fr lo) (hdg : decode cc pc = .ok (.getfield 105, 3)) (kk : VJ LR w X nL t r M1 M lv (.int (i32 (M 0 31)) :: st) (pc + 3)) : VJ LR w X nL t r M1 M lv (.ref (wa w 0) :: st) pc := vj_getf G lkR_0 clR_0 inR_0 (j := 31) (by decide) q_1337 rfl (fvs_get flR_0_31) hdg kk
theorem gfR_m_108 {w : Wd} {X : Cx} {cc : ByteArray} {nL fr lo t pc : Nat} {r : Int} {M1 M : Mm} {lv : List (Nat × Value)} {st : List Value} (G : Gc LR w X "WhoRulesModel" cc nL fr lo) (hdg : decode cc pc = .ok (.getfield 108, 3)) (kk : VJ LR w X nL t r M1 M lv (.int (i32 (M 0 32)) :: st) (pc + 3)) : VJ LR w X nL t r M1 M lv (.ref (wa w 0) :: st) pc := vj_getf G lkR_0 clR_0 inR_0 (j := 32) (by decide) q_1338 rfl (fvs_get flR_0_32) hdg kk
theorem gfR_m_111 {w : Wd} {X : Cx} {cc : ByteArray} {nL fr lo t pc : Nat} {r : Int} {M1 M : Mm} {lv : List (Nat × Value)} {st : List Value} (G : Gc LR w X "WhoRulesModel" cc nL fr lo) (hdg : decode cc pc = .ok (.getfield 111, 3)) (kk : VJ LR w X nL t r M1 M lv (.int (i32 (M 0 33)) :: st) (pc + 3)) : VJ LR w X nL t r M1 M lv (.ref (wa w 0) :: st) pc := vj_getf G lkR_0 clR_0 inR_0 (j := 33) (by decide) q_1339 rfl (fvs_get flR_0_33) hdg kk
theorem gfR_m_114 {w : Wd} {X : Cx} {cc : ByteArray} {nL fr lo t pc : Nat} {r : Int} {M1 M : Mm} {lv : List (Nat × Value)} {st : List Value} (G : Gc LR w X "WhoRulesModel" cc nL fr lo) (hdg : decode cc pc = .ok (.getfield 114, 3)) (kk : VJ LR w X nL t r M1 M lv (.ref (wa w 20) :: st) (pc + 3)) : VJ LR w X nL t r M1 M lv (.ref (wa w 0) :: st) pc := vj_getf G lkR_0 clR_0 inR_0 (j := 34) (by decide) q_1340 rfl (fvs_get flR_0_34) hdg kk
theorem gfR_m_117 {w : Wd} {X : Cx} {cc : ByteArray} {nL fr lo t pc : Nat} {r : Int} {M1 M : Mm} {lv : List (Nat × Value)} {st : List Value} (G : Gc LR w X "WhoRulesModel" cc nL fr lo) (hdg : decode cc pc = .ok (.getfield 117, 3)) (kk : VJ LR w X nL t r M1 M lv (.ref (wa w 21) :: st) (pc + 3)) : VJ LR w X nL t r M1 M lv (.ref (wa w 0) :: st) pc := vj_getf G lkR_0 clR_0 inR_0 (j := 35) (by decide) q_1341 rfl (fvs_get flR_0_35) hdg kk
theorem gfR_m_121 {w : Wd} {X : Cx} {cc : ByteArray} {nL fr lo t pc : Nat} {r : Int} {M1 M : Mm} {lv : List (Nat × Value)} {st : List Value} (G : Gc LR w X "WhoRulesModel" cc nL fr lo) (hdg : decode cc pc = .ok (.getfield 121, 3)) (kk : VJ LR w X nL t r M1 M lv (.int (i32 (M 0 36)) :: st) (pc + 3)) : VJ LR w X nL t r M1 M lv (.ref (wa w 0) :: st) pc := vj_getf G lkR_0 clR_0 inR_0 (j := 36) (by decide) q_1342 rfl (fvs_get flR_0_36) hdg kk
theorem gfR_m_124 {w : Wd} {X : Cx} {cc : ByteArray} {nL fr lo t pc : Nat} {r : Int} {M1 M : Mm} {lv : List (Nat × Value)} {st : List Value} (G : Gc LR w X "WhoRulesModel" cc nL fr lo) (hdg : decode cc pc = .ok (.getfield 124, 3)) (kk : VJ LR w X nL t r M1 M lv (.int (i32 (M 0 37)) :: st) (pc + 3)) : VJ LR w X nL t r M1 M lv (.ref (wa w 0) :: st) pc := vj_getf G lkR_0 clR_0 inR_0 (j := 37) (by decide) q_1343 rfl (fvs_get flR_0_37) hdg kk
theorem gfR_m_127 {w : Wd} {X : Cx} {cc : ByteArray} {nL fr lo t pc : Nat} {r : Int} {M1 M : Mm} {lv : List (Nat × Value)} {st : List Value} (G : Gc LR w X "WhoRulesModel" cc nL fr lo) (hdg : decode cc pc = .ok (.getfield 127, 3)) (kk : VJ LR w X nL t r M1 M lv (.int (i32 (M 0 38)) :: st) (pc + 3)) : VJ LR w X nL t r M1 M lv (.ref (wa w 0) :: st) pc := vj_getf G lkR_0 clR_0 inR_0 (j := 38) (by decide) q_1344 rfl (fvs_get flR_0_38) hdg kk
theorem gfR_m_130 {w : Wd} {X : Cx} {cc : ByteArray} {nL fr lo t pc : Nat} {r : Int} {M1 M : Mm} {lv : List (Nat × Value)} {st : List Value} (G : Gc LR w X "WhoRulesModel" cc nL fr lo) (hdg : decode cc pc = .ok (.getfield 130, 3)) (kk : VJ LR w X nL t r M1 M lv (.ref (wa w 22) :: st) (pc + 3)) : VJ LR w X nL t r M1 M lv (.ref (wa w 0) :: st) pc := vj_getf G lkR_0 clR_0 inR_0 (j := 39) (by decide) q_1345 rfl (fvs_get flR_0_39) hdg kk
theorem gfR_m_133 {w : Wd} {X : Cx} {cc : ByteArray} {nL fr lo t pc : Nat} {r : Int} {M1 M : Mm} {lv : List (Nat × Value)} {st : List Value} (G : Gc LR w X "WhoRulesModel" cc nL fr lo) (hdg : decode cc pc = .ok (.getfield 133, 3)) (kk : VJ LR w X nL t r M1 M lv (.ref (wa w 23) :: st) (pc + 3)) : VJ LR w X nL t r M1 M lv (.ref (wa w 0) :: st) pc := vj_getf G lkR_0 clR_0 inR_0 (j := 40) (by decide) q_1346 rfl (fvs_get flR_0_40) hdg kk
theorem gfR_m_136 {w : Wd} {X : Cx} {cc : ByteArray} {nL fr lo t pc : Nat} {r : Int} {M1 M : Mm} {lv : List (Nat × Value)} {st : List Value} (G : Gc LR w X "WhoRulesModel" cc nL fr lo) (hdg : decode cc pc = .ok (.getfield 136, 3)) (kk : VJ LR w X nL t r M1 M lv (.ref (wa w 24) :: st) (pc + 3)) : VJ LR w X nL t r M1 M lv (.ref (wa w 0) :: st) pc := vj_getf G lkR_0 clR_0 inR_0 (j := 41) (by decide) q_1347 rfl (fvs_get flR_0_41) hdg kk
theorem gfR_m_139 {w : Wd} {X : Cx} {cc : ByteArray} {nL fr lo t pc : Nat} {r : Int} {M1 M : Mm} {lv : List (Nat × Value)} {st : List Value} (G : Gc LR w X "WhoRulesModel" cc nL fr lo) (hdg : decode cc pc = .ok (.getfield 139, 3)) (kk : VJ LR w X nL t r M1 M lv (.ref (wa w 25) :: st) (pc + 3)) : VJ LR w X nL t r M1 M lv (.ref (wa w 0) :: st) pc := vj_getf G lkR_0 clR_0 inR_0 (j := 42) (by decide) q_1348 rfl (fvs_get flR_0_42) hdg kk
theorem gfR_m_142 {w : Wd} {X : Cx} {cc : ByteArray} {nL fr lo t pc : Nat} {r : Int} {M1 M : Mm} {lv : List (Nat × Value)} {st : List Value} (G : Gc LR w X "WhoRulesModel" cc nL fr lo) (hdg : decode cc pc = .ok (.getfield 142, 3)) (kk : VJ LR w X nL t r M1 M lv (.ref (wa w 26) :: st) (pc + 3)) : VJ LR w X nL t r M1 M lv (.ref (wa w 0) :: st) pc := vj_getf G lkR_0 clR_0 inR_0 (j := 43) (by decide) q_1349 rfl (fvs_get flR_0_43) hdg kk
theorem gfR_m_145 {w : Wd} {X : Cx} {cc : ByteArray} {nL fr lo t pc : Nat} {r : Int} {M1 M : Mm} {lv : List (Nat × Value)} {st : List Value} (G : Gc LR w X "WhoRulesModel" cc nL fr lo) (hdg : decode cc pc = .ok (.getfield 145, 3)) (kk : VJ LR w X nL t r M1 M lv (.ref (wa w 27) :: st) (pc + 3)) : VJ LR w X nL t r M1 M lv (.ref (wa w 0) :: st) pc := vj_getf G lkR_0 clR_0 inR_0 (j := 44) (by decide) q_1350 rfl (fvs_get flR_0_44) hdg kk
theorem gfR_m_148 {w : Wd} {X : Cx} {cc : ByteArray} {nL fr lo t pc : Nat} {r : Int} {M1 M : Mm} {lv : List (Nat × Value)} {st : List Value} (G : Gc LR w X "WhoRulesModel" cc nL fr lo) (hdg : decode cc pc = .ok (.getfield 148, 3)) (kk : VJ LR w X nL t r M1 M lv (.ref (wa w 28) :: st) (pc + 3)) : VJ LR w X nL t r M1 M lv (.ref (wa w 0) :: st) pc := vj_getf G lkR_0 clR_0 inR_0 (j := 45) (by decide) q_1351 rfl (fvs_get flR_0_45) hdg kk
theorem gfR_m_151 {w : Wd} {X : Cx} {cc : ByteArray} {nL fr lo t pc : Nat} {r : Int} {M1 M : Mm} {lv : List (Nat × Value)} {st : List Value} (G : Gc LR w X "WhoRulesModel" cc nL fr lo) (hdg : decode cc pc = .ok (.getfield 151, 3)) (kk : VJ LR w X nL t r M1 M lv (.ref (wa w 29) :: st) (pc + 3)) : VJ LR w X nL t r M1 M lv (.ref (wa w 0) :: st) pc := vj_getf G lkR_0 clR_0 inR_0 (j := 46) (by decide) q_1352 rfl (fvs_get flR_0_46) hdg kk
theorem gfR_m_154 {w : Wd} {X : Cx} {cc : ByteArray} {nL fr lo t pc : Nat} {r : Int} {M1 M : Mm} {lv : List (Nat × Value)} {st : List Value} (G : Gc LR w X "WhoRulesModel" cc nL fr lo) (hdg : decode cc pc = .ok (.getfield 154, 3)) (kk : VJ LR w X nL t r M1 M lv (.ref (wa w 30) :: st) (pc + 3)) : VJ LR w X nL t r M1 M lv (.ref (wa w 0) :: st) pc := vj_getf G lkR_0 clR_0 inR_0 (j := 47) (by decide) q_1353 rfl (fvs_get flR_0_47) hdg kk
theorem gfR_m_157 {w : Wd} {X : Cx} {cc : ByteArray} {nL fr lo t pc : Nat} {r : Int} {M1 M : Mm} {lv : List (Nat × Value)} {st : List Value} (G : Gc LR w X "WhoRulesModel" cc nL fr lo) (hdg : decode cc pc = .ok (.getfield 157, 3)) (kk : VJ LR w X nL t r M1 M lv (.int (i32 (M 0 48)) :: st) (pc + 3)) : VJ LR w X nL t r M1 M lv (.ref (wa w 0) :: st) pc := vj_getf G lkR_0 clR_0 inR_0 (j := 48) (by decide) q_1354 rfl (fvs_get flR_0_48) hdg kk
theorem gfR_m_160 {w : Wd} {X : Cx} {cc : ByteArray} {nL fr lo t pc : Nat} {r : Int} {M1 M : Mm} {lv : List (Nat × Value)} {st : List Value} (G : Gc LR w X "WhoRulesModel" cc nL fr lo) (hdg : decode cc pc = .ok (.getfield 160, 3)) (kk : VJ LR w X nL t r M1 M lv (.ref (wa w 31) :: st) (pc + 3)) : VJ LR w X nL t r M1 M lv (.ref (wa w 0) :: st) pc := vj_getf G lkR_0 clR_0 inR_0 (j := 49) (by decide) q_1355 rfl (fvs_get flR_0_49) hdg kk
theorem gfR_m_163 {w : Wd} {X : Cx} {cc : ByteArray} {nL fr lo t pc : Nat} {r : Int} {M1 M : Mm} {lv : List (Nat × Value)} {st : List Value} (G : Gc LR w X "WhoRulesModel" cc nL fr lo) (hdg : decode cc pc = .ok (.getfield 163, 3)) (kk : VJ LR w X nL t r M1 M lv (.ref (wa w 32) :: st) (pc + 3)) : VJ LR w X nL t r M1 M lv (.ref (wa w 0) :: st) pc := vj_getf G lkR_0 clR_0 inR_0 (j := 50) (by decide) q_1356 rfl (fvs_get flR_0_50) hdg kk
theorem gfR_m_166 {w : Wd} {X : Cx} {cc : ByteArray} {nL fr lo t pc : Nat} {r : Int} {M1 M : Mm} {lv : List (Nat × Value)} {st : List Value} (G : Gc LR w X "WhoRulesModel" cc nL fr lo) (hdg : decode cc pc = .ok (.getfield 166, 3)) (kk : VJ LR w X nL t r M1 M lv (.int (i32 (M 0 51)) :: st) (pc + 3)) : VJ LR w X nL t r M1 M lv (.ref (wa w 0) :: st) pc := vj_getf G lkR_0 clR_0 inR_0 (j := 51) (by decide) q_1357 rfl (fvs_get flR_0_51) hdg kk
theorem gfR_m_169 {w : Wd} {X : Cx} {cc : ByteArray} {nL fr lo t pc : Nat} {r : Int} {M1 M : Mm} {lv : List (Nat × Value)} {st : List Value} (G : Gc LR w X "WhoRulesModel" cc nL fr lo) (hdg : decode cc pc = .ok (.getfield 169, 3)) (kk : VJ LR w X nL t r M1 M lv (.ref (wa w 33) :: st) (pc + 3)) : VJ LR w X nL t r M1 M lv (.ref (wa w 0) :: st) pc := vj_getf G lkR_0 clR_0 inR_0 (j := 52) (by decide) q_1358 rfl (fvs_get flR_0_52) hdg kk
theorem gfR_m_173 {w : Wd} {X : Cx} {cc : ByteArray} {nL fr lo t pc : Nat} {r : Int} {M1 M : Mm} {lv : List (Nat × Value)} {st : List Value} (G : Gc LR w X "WhoRulesModel" cc nL fr lo) (hdg : decode cc pc = .ok (.getfield 173, 3)) (kk : VJ LR w X nL t r M1 M lv (.ref (wa w 34) :: st) (pc + 3)) : VJ LR w X nL t r M1 M lv (.ref (wa w 0) :: st) pc := vj_getf G lkR_0 clR_0 inR_0 (j := 53) (by decide) q_1359 rfl (fvs_get flR_0_53) hdg kk
theorem gfR_m_176 {w : Wd} {X : Cx} {cc : ByteArray} {nL fr lo t pc : Nat} {r : Int} {M1 M : Mm} {lv : List (Nat × Value)} {st : List Value} (G : Gc LR w X "WhoRulesModel" cc nL fr lo) (hdg : decode cc pc = .ok (.getfield 176, 3)) (kk : VJ LR w X nL t r M1 M lv (.ref (wa w 35) :: st) (pc + 3)) : VJ LR w X nL t r M1 M lv (.ref (wa w 0) :: st) pc := vj_getf G lkR_0 clR_0 inR_0 (j := 54) (by decide) q_1360 rfl (fvs_get flR_0_54) hdg kk
theorem gfR_m_179 {w : Wd} {X : Cx} {cc : ByteArray} {nL fr lo t pc : Nat} {r : Int} {M1 M : Mm} {lv : List (Nat × Value)} {st : List Value} (G : Gc LR w X "WhoRulesModel" cc nL fr lo) (hdg : decode cc pc = .ok (.getfield 179, 3)) (kk : VJ LR w X nL t r M1 M lv (.int (i32 (M 0 55)) :: st) (pc + 3)) : VJ LR w X nL t r M1 M lv (.ref (wa w 0) :: st) pc := vj_getf G lkR_0 clR_0 inR_0 (j := 55) (by decide) q_1361 rfl (fvs_get flR_0_55) hdg kk
theorem gfR_m_182 {w : Wd} {X : Cx} {cc : ByteArray} {nL fr lo t pc : Nat} {r : Int} {M1 M : Mm} {lv : List (Nat × Value)} {st : List Value} (G : Gc LR w X "WhoRulesModel" cc nL fr lo) (hdg : decode cc pc = .ok (.getfield 182, 3)) (kk : VJ LR w X nL t r M1 M lv (.ref (wa w 36) :: st) (pc + 3)) : VJ LR w X nL t r M1 M lv (.ref (wa w 0) :: st) pc := vj_getf G lkR_0 clR_0 inR_0 (j := 56) (by decide) q_1362 rfl (fvs_get flR_0_56) hdg kk
theorem gfR_m_185 {w : Wd} {X : Cx} {cc : ByteArray} {nL fr lo t pc : Nat} {r : Int} {M1 M : Mm} {lv : List (Nat × Value)} {st : List Value} (G : Gc LR w X "WhoRulesModel" cc nL fr lo) (hdg : decode cc pc = .ok (.getfield 185, 3)) (kk : VJ LR w X nL t r M1 M lv (.ref (wa w 37) :: st) (pc + 3)) : VJ LR w X nL t r M1 M lv (.ref (wa w 0) :: st) pc := vj_getf G lkR_0 clR_0 inR_0 (j := 57) (by decide) q_1363 rfl (fvs_get flR_0_57) hdg kk
theorem gfR_m_188 {w : Wd} {X : Cx} {cc : ByteArray} {nL fr lo t pc : Nat} {r : Int} {M1 M : Mm} {lv : List (Nat × Value)} {st : List Value} (G : Gc LR w X "WhoRulesModel" cc nL fr lo) (hdg : decode cc pc = .ok (.getfield 188, 3)) (kk : VJ LR w X nL t r M1 M lv (.ref (wa w 38) :: st) (pc + 3)) : VJ LR w X nL t r M1 M lv (.ref (wa w 0) :: st) pc := vj_getf G lkR_0 clR_0 inR_0 (j := 58) (by decide) q_1364 rfl (fvs_get flR_0_58) hdg kk
theorem gfR_m_191 {w : Wd} {X : Cx} {cc : ByteArray} {nL fr lo t pc : Nat} {r : Int} {M1 M : Mm} {lv : List (Nat × Value)} {st : List Value} (G : Gc LR w X "WhoRulesModel" cc nL fr lo) (hdg : decode cc pc = .ok (.getfield 191, 3)) (kk : VJ LR w X nL t r M1 M lv (.ref (wa w 39) :: st) (pc + 3)) : VJ LR w X nL t r M1 M lv (.ref (wa w 0) :: st) pc := vj_getf G lkR_0 clR_0 inR_0 (j := 59) (by decide) q_1365 rfl (fvs_get flR_0_59) hdg kk
theorem gfR_m_194 {w : Wd} {X : Cx} {cc : ByteArray} {nL fr lo t pc : Nat} {r : Int} {M1 M : Mm} {lv : List (Nat × Value)} {st : List Value} (G : Gc LR w X "WhoRulesModel" cc nL fr lo) (hdg : decode cc pc = .ok (.getfield 194, 3)) (kk : VJ LR w X nL t r M1 M lv (.int (i32 (M 0 60)) :: st) (pc + 3)) : VJ LR w X nL t r M1 M lv (.ref (wa w 0) :: st) pc := vj_getf G lkR_0 clR_0 inR_0 (j := 60) (by decide) q_1366 rfl (fvs_get flR_0_60) hdg kk
theorem gfR_m_197 {w : Wd} {X : Cx} {cc : ByteArray} {nL fr lo t pc : Nat} {r : Int} {M1 M : Mm} {lv : List (Nat × Value)} {st : List Value} (G : Gc LR w X "WhoRulesModel" cc nL fr lo) (hdg : decode cc pc = .ok (.getfield 197, 3)) (kk : VJ LR w X nL t r M1 M lv (.long (i64 (M 0 61)) :: st) (pc + 3)) : VJ LR w X nL t r M1 M lv (.ref (wa w 0) :: st) pc := vj_getf G lkR_0 clR_0 inR_0 (j := 61) (by decide) q_1367 rfl (fvs_get flR_0_61) hdg kk
theorem gfR_m_201 {w : Wd} {X : Cx} {cc : ByteArray} {nL fr lo t pc : Nat} {r : Int} {M1 M : Mm} {lv : List (Nat × Value)} {st : List Value} (G : Gc LR w X "WhoRulesModel" cc nL fr lo) (hdg : decode cc pc = .ok (.getfield 201, 3)) (kk : VJ LR w X nL t r M1 M lv (.int (i32 (M 0 62)) :: st) (pc + 3)) : VJ LR w X nL t r M1 M lv (.ref (wa w 0) :: st) pc := vj_getf G lkR_0 clR_0 inR_0 (j := 62) (by decide) q_1368 rfl (fvs_get flR_0_62) hdg kk
theorem gfR_m_204 {w : Wd} {X : Cx} {cc : ByteArray} {nL fr lo t pc : Nat} {r : Int} {M1 M : Mm} {lv : List (Nat × Value)} {st : List Value} (G : Gc LR w X "WhoRulesModel" cc nL fr lo) (hdg : decode cc pc = .ok (.getfield 204, 3)) (kk : VJ LR w X nL t r M1 M lv (.int (i32 (M 0 63)) :: st) (pc + 3)) : VJ LR w X nL t r M1 M lv (.ref (wa w 0) :: st) pc := vj_getf G lkR_0 clR_0 inR_0 (j := 63) (by decide) q_1369 rfl (fvs_get flR_0_63) hdg kk
theorem gfR_m_207 {w : Wd} {X : Cx} {cc : ByteArray} {nL fr lo t pc : Nat} {r : Int} {M1 M : Mm} {lv : List (Nat × Value)} {st : List Value} (G : Gc LR w X "WhoRulesModel" cc nL fr lo) (hdg : decode cc pc = .ok (.getfield 207, 3)) (kk : VJ LR w X nL t r M1 M lv (.ref (wa w 40) :: st) (pc + 3)) : VJ LR w X nL t r M1 M lv (.ref (wa w 0) :: st) pc := vj_getf G lkR_0 clR_0 inR_0 (j := 64) (by decide) q_1370 rfl (fvs_get flR_0_64) hdg kk
theorem gfR_m_210 {w : Wd} {X : Cx} {cc : ByteArray} {nL fr lo t pc : Nat} {r : Int} {M1 M : Mm} {lv : List (Nat × Value)} {st : List Value} (G : Gc LR w X "WhoRulesModel" cc nL fr lo) (hdg : decode cc pc = .ok (.getfield 210, 3)) (kk : VJ LR w X nL t r M1 M lv (.ref (wa w 41) :: st) (pc + 3)) : VJ LR w X nL t r M1 M lv (.ref (wa w 0) :: st) pc := vj_getf G lkR_0 clR_0 inR_0 (j := 65) (by decide) q_1371 rfl (fvs_get flR_0_65) hdg kk
theorem gfR_m_213 {w : Wd} {X : Cx} {cc : ByteArray} {nL fr lo t pc : Nat} {r : Int} {M1 M : Mm} {lv : List (Nat × Value)} {st : List Value} (G : Gc LR w X "WhoRulesModel" cc nL fr lo) (hdg : decode cc pc = .ok (.getfield 213, 3)) (kk : VJ LR w X nL t r M1 M lv (.ref (wa w 42) :: st) (pc + 3)) : VJ LR w X nL t r M1 M lv (.ref (wa w 0) :: st) pc := vj_getf G lkR_0 clR_0 inR_0 (j := 66) (by decide) q_1372 rfl (fvs_get flR_0_66) hdg kk
theorem gfR_m_216 {w : Wd} {X : Cx} {cc : ByteArray} {nL fr lo t pc : Nat} {r : Int} {M1 M : Mm} {lv : List (Nat × Value)} {st : List Value} (G : Gc LR w X "WhoRulesModel" cc nL fr lo) (hdg : decode cc pc = .ok (.getfield 216, 3)) (kk : VJ LR w X nL t r M1 M lv (.ref (wa w 43) :: st) (pc + 3)) : VJ LR w X nL t r M1 M lv (.ref (wa w 0) :: st) pc := vj_getf G lkR_0 clR_0 inR_0 (j := 67) (by decide) q_1373 rfl (fvs_get flR_0_67) hdg kk
theorem gfR_m_219 {w : Wd} {X : Cx} {cc : ByteArray} {nL fr lo t pc : Nat} {r : Int} {M1 M : Mm} {lv : List (Nat × Value)} {st : List Value} (G : Gc LR w X "WhoRulesModel" cc nL fr lo) (hdg : decode cc pc = .ok (.getfield 219, 3)) (kk : VJ LR w X nL t r M1 M lv (.ref (wa w 44) :: st) (pc + 3)) : VJ LR w X nL t r M1 M lv (.ref (wa w 0) :: st) pc := vj_getf G lkR_0 clR_0 inR_0 (j := 68) (by decide) q_1374 rfl (fvs_get flR_0_68) hdg kk
theorem gfR_m_222 {w : Wd} {X : Cx} {cc : ByteArray} {nL fr lo t pc : Nat} {r : Int} {M1 M : Mm} {lv : List (Nat × Value)} {st : List Value} (G : Gc LR w X "WhoRulesModel" cc nL fr lo) (hdg : decode cc pc = .ok (.getfield 222, 3)) (kk : VJ LR w X nL t r M1 M lv (.ref (wa w 45) :: st) (pc + 3)) : VJ LR w X nL t r M1 M lv (.ref (wa w 0) :: st) pc := vj_getf G lkR_0 clR_0 inR_0 (j := 69) (by decide) q_1375 rfl (fvs_get flR_0_69) hdg kk
theorem gfR_m_225 {w : Wd} {X : Cx} {cc : ByteArray} {nL fr lo t pc : Nat} {r : Int} {M1 M : Mm} {lv : List (Nat × Value)} {st : List Value} (G : Gc LR w X "WhoRulesModel" cc nL fr lo) (hdg : decode cc pc = .ok (.getfield 225, 3)) (kk : VJ LR w X nL t r M1 M lv (.int (i32 (M 0 70)) :: st) (pc + 3)) : VJ LR w X nL t r M1 M lv (.ref (wa w 0) :: st) pc := vj_getf G lkR_0 clR_0 inR_0 (j := 70) (by decide) q_1376 rfl (fvs_get flR_0_70) hdg kk
theorem gfR_m_228 {w : Wd} {X : Cx} {cc : ByteArray} {nL fr lo t pc : Nat} {r : Int} {M1 M : Mm} {lv : List (Nat × Value)} {st : List Value} (G : Gc LR w X "WhoRulesModel" cc nL fr lo) (hdg : decode cc pc = .ok (.getfield 228, 3)) (kk : VJ LR w X nL t r M1 M lv (.int (i32 (M 0 71)) :: st) (pc + 3)) : VJ LR w X nL t r M1 M lv (.ref (wa w 0) :: st) pc := vj_getf G lkR_0 clR_0 inR_0 (j := 71) (by decide) q_1377 rfl (fvs_get flR_0_71) hdg kk
theorem gfR_m_231 {w : Wd} {X : Cx} {cc : ByteArray} {nL fr lo t pc : Nat} {r : Int} {M1 M : Mm} {lv : List (Nat × Value)} {st : List Value} (G : Gc LR w X "WhoRulesModel" cc nL fr lo) (hdg : decode cc pc = .ok (.getfield 231, 3)) (kk : VJ LR w X nL t r M1 M lv (.ref (wa w 46) :: st) (pc + 3)) : VJ LR w X nL t r M1 M lv (.ref (wa w 0) :: st) pc := vj_getf G lkR_0 clR_0 inR_0 (j := 72) (by decide) q_1378 rfl (fvs_get flR_0_72) hdg kk
theorem gfR_m_234 {w : Wd} {X : Cx} {cc : ByteArray} {nL fr lo t pc : Nat} {r : Int} {M1 M : Mm} {lv : List (Nat × Value)} {st : List Value} (G : Gc LR w X "WhoRulesModel" cc nL fr lo) (hdg : decode cc pc = .ok (.getfield 234, 3)) (kk : VJ LR w X nL t r M1 M lv (.ref (wa w 47) :: st) (pc + 3)) : VJ LR w X nL t r M1 M lv (.ref (wa w 0) :: st) pc := vj_getf G lkR_0 clR_0 inR_0 (j := 73) (by decide) q_1379 rfl (fvs_get flR_0_73) hdg kk
theorem gfR_m_237 {w : Wd} {X : Cx} {cc : ByteArray} {nL fr lo t pc : Nat} {r : Int} {M1 M : Mm} {lv : List (Nat × Value)} {st : List Value} (G : Gc LR w X "WhoRulesModel" cc nL fr lo) (hdg : decode cc pc = .ok (.getfield 237, 3)) (kk : VJ LR w X nL t r M1 M lv (.ref (wa w 48) :: st) (pc + 3)) : VJ LR w X nL t r M1 M lv (.ref (wa w 0) :: st) pc := vj_getf G lkR_0 clR_0 inR_0 (j := 74) (by decide) q_1380 rfl (fvs_get flR_0_74) hdg kk
theorem gfR_m_240 {w : Wd} {X : Cx} {cc : ByteArray} {nL fr lo t pc : Nat} {r : Int} {M1 M : Mm} {lv : List (Nat × Value)} {st : List Value} (G : Gc LR w X "WhoRulesModel" cc nL fr lo) (hdg : decode cc pc = .ok (.getfield 240, 3)) (kk : VJ LR w X nL t r M1 M lv (.ref (wa w 49) :: st) (pc + 3)) : VJ LR w X nL t r M1 M lv (.ref (wa w 0) :: st) pc := vj_getf G lkR_0 clR_0 inR_0 (j := 75) (by decide) q_1381 rfl (fvs_get flR_0_75) hdg kk
theorem gfR_m_243 {w : Wd} {X : Cx} {cc : ByteArray} {nL fr lo t pc : Nat} {r : Int} {M1 M : Mm} {lv : List (Nat × Value)} {st : List Value} (G : Gc LR w X "WhoRulesModel" cc nL fr lo) (hdg : decode cc pc = .ok (.getfield 243, 3)) (kk : VJ LR w X nL t r M1 M lv (.ref (wa w 50) :: st) (pc + 3)) : VJ LR w X nL t r M1 M lv (.ref (wa w 0) :: st) pc := vj_getf G lkR_0 clR_0 inR_0 (j := 76) (by decide) q_1382 rfl (fvs_get flR_0_76) hdg kk
theorem pfR_m_7 {w : Wd} {X : Cx} {cc : ByteArray} {nL fr lo t pc : Nat} {r : Int} {M1 M : Mm} {lv : List (Nat × Value)} {st : List Value} (G : Gc LR w X "WhoRulesModel" cc nL fr lo) {v : Int} (hv : inR v) (hdg : decode cc pc = .ok (.putfield 7, 3)) (kk : VJ LR w X nL t r M1 (mset M 0 0 v) lv st (pc + 3)) : VJ LR w X nL t r M1 M lv (.int (i32 v) :: .ref (wa w 0) :: st) pc := vj_putf G lkR_0 (by decide) (by decide) clR_0 inR_0 toR_0 nmR_0 (j := 0) (by decide) q_1306 rfl rfl (ty := .int) (by decide +kernel) rfl rfl rfl (fun c hc => by cases hc; rfl) hv hdg kk
theorem pfR_m_13 {w : Wd} {X : Cx} {cc : ByteArray} {nL fr lo t pc : Nat} {r : Int} {M1 M : Mm} {lv : List (Nat × Value)} {st : List Value} (G : Gc LR w X "WhoRulesModel" cc nL fr lo) {v : Int} (hv : inR v) (hdg : decode cc pc = .ok (.putfield 13, 3)) (kk : VJ LR w X nL t r M1 (mset M 0 1 v) lv st (pc + 3)) : VJ LR w X nL t r M1 M lv (.int (i32 v) :: .ref (wa w 0) :: st) pc := vj_putf G lkR_0 (by decide) (by decide) clR_0 inR_0 toR_0 nmR_0 (j := 1) (by decide) q_1307 rfl rfl (ty := .int) (by decide +kernel) rfl rfl rfl (fun c hc => by cases hc; rfl) hv hdg kk
theorem pfR_m_16 {w : Wd} {X : Cx} {cc : ByteArray} {nL fr lo t pc : Nat} {r : Int} {M1 M : Mm} {lv : List (Nat × Value)} {st : List Value} (G : Gc LR w X "WhoRulesModel" cc nL fr lo) {v : Int} (hv : inR v) (hdg : decode cc pc = .ok (.putfield 16, 3)) (kk : VJ LR w X nL t r M1 (mset M 0 2 v) lv st (pc + 3)) : VJ LR w X nL t r M1 M lv (.int (i32 v) :: .ref (wa w 0) :: st) pc := vj_putf G lkR_0 (by decide) (by decide) clR_0 inR_0 toR_0 nmR_0 (j := 2) (by decide) q_1308 rfl rfl (ty := .int) (by decide +kernel) rfl rfl rfl (fun c hc => by cases hc; rfl) hv hdg kk
theorem pfR_m_19 {w : Wd} {X : Cx} {cc : ByteArray} {nL fr lo t pc : Nat} {r : Int} {M1 M : Mm} {lv : List (Nat × Value)} {st : List Value} (G : Gc LR w X "WhoRulesModel" cc nL fr lo) {v : Int} (hv : inR v) (hdg : decode cc pc = .ok (.putfield 19, 3)) (kk : VJ LR w X nL t r M1 (mset M 0 3 v) lv st (pc + 3)) : VJ LR w X nL t r M1 M lv (.int (i32 v) :: .ref (wa w 0) :: st) pc := vj_putf G lkR_0 (by decide) (by decide) clR_0 inR_0 toR_0 nmR_0 (j := 3) (by decide) q_1309 rfl rfl (ty := .int) (by decide +kernel) rfl rfl rfl (fun c hc => by cases hc; rfl) hv hdg kk
theorem pfR_m_22 {w : Wd} {X : Cx} {cc : ByteArray} {nL fr lo t pc : Nat} {r : Int} {M1 M : Mm} {lv : List (Nat × Value)} {st : List Value} (G : Gc LR w X "WhoRulesModel" cc nL fr lo) {v : Int} (hv : inR v) (hdg : decode cc pc = .ok (.putfield 22, 3)) (kk : VJ LR w X nL t r M1 (mset M 0 4 v) lv st (pc + 3)) : VJ LR w X nL t r M1 M lv (.int (i32 v) :: .ref (wa w 0) :: st) pc := vj_putf G lkR_0 (by decide) (by decide) clR_0 inR_0 toR_0 nmR_0 (j := 4) (by decide) q_1310 rfl rfl (ty := .int) (by decide +kernel) rfl rfl rfl (fun c hc => by cases hc; rfl) hv hdg kk
theorem pfR_m_59 {w : Wd} {X : Cx} {cc : ByteArray} {nL fr lo t pc : Nat} {r : Int} {M1 M : Mm} {lv : List (Nat × Value)} {st : List Value} (G : Gc LR w X "WhoRulesModel" cc nL fr lo) {v : Int} (hv : inR v) (hdg : decode cc pc = .ok (.putfield 59, 3)) (kk : VJ LR w X nL t r M1 (mset M 0 16 v) lv st (pc + 3)) : VJ LR w X nL t r M1 M lv (.int (i32 v) :: .ref (wa w 0) :: st) pc := vj_putf G lkR_0 (by decide) (by decide) clR_0 inR_0 toR_0 nmR_0 (j := 16) (by decide) q_1322 rfl rfl (ty := .int) (by decide +kernel) rfl rfl rfl (fun c hc => by cases hc; rfl) hv hdg kk
theorem pfR_m_62 {w : Wd} {X : Cx} {cc : ByteArray} {nL fr lo t pc : Nat} {r : Int} {M1 M : Mm} {lv : List (Nat × Value)} {st : List Value} (G : Gc LR w X "WhoRulesModel" cc nL fr lo) {v : Int} (hv : inR v) (hdg : decode cc pc = .ok (.putfield 62, 3)) (kk : VJ LR w X nL t r M1 (mset M 0 17 v) lv st (pc + 3)) : VJ LR w X nL t r M1 M lv (.int (i32 v) :: .ref (wa w 0) :: st) pc := vj_putf G lkR_0 (by decide) (by decide) clR_0 inR_0 toR_0 nmR_0 (j := 17) (by decide) q_1323 rfl rfl (ty := .int) (by decide +kernel) rfl rfl rfl (fun c hc => by cases hc; rfl) hv hdg kk
theorem pfR_m_65 {w : Wd} {X : Cx} {cc : ByteArray} {nL fr lo t pc : Nat} {r : Int} {M1 M : Mm} {lv : List (Nat × Value)} {st : List Value} (G : Gc LR w X "WhoRulesModel" cc nL fr lo) {v : Int} (hv : inR v) (hdg : decode cc pc = .ok (.putfield 65, 3)) (kk : VJ LR w X nL t r M1 (mset M 0 18 v) lv st (pc + 3)) : VJ LR w X nL t r M1 M lv (.int (i32 v) :: .ref (wa w 0) :: st) pc := vj_putf G lkR_0 (by decide) (by decide) clR_0 inR_0 toR_0 nmR_0 (j := 18) (by decide) q_1324 rfl rfl (ty := .int) (by decide +kernel) rfl rfl rfl (fun c hc => by cases hc; rfl) hv hdg kk
theorem pfR_m_68 {w : Wd} {X : Cx} {cc : ByteArray} {nL fr lo t pc : Nat} {r : Int} {M1 M : Mm} {lv : List (Nat × Value)} {st : List Value} (G : Gc LR w X "WhoRulesModel" cc nL fr lo) {v : Int} (hv : inR v) (hdg : decode cc pc = .ok (.putfield 68, 3)) (kk : VJ LR w X nL t r M1 (mset M 0 19 v) lv st (pc + 3)) : VJ LR w X nL t r M1 M lv (.int (i32 v) :: .ref (wa w 0) :: st) pc := vj_putf G lkR_0 (by decide) (by decide) clR_0 inR_0 toR_0 nmR_0 (j := 19) (by decide) q_1325 rfl rfl (ty := .int) (by decide +kernel) rfl rfl rfl (fun c hc => by cases hc; rfl) hv hdg kk
theorem pfR_m_95 {w : Wd} {X : Cx} {cc : ByteArray} {nL fr lo t pc : Nat} {r : Int} {M1 M : Mm} {lv : List (Nat × Value)} {st : List Value} (G : Gc LR w X "WhoRulesModel" cc nL fr lo) {v : Int} (hv : inB v) (hdg : decode cc pc = .ok (.putfield 95, 3)) (kk : VJ LR w X nL t r M1 (mset M 0 28 v) lv st (pc + 3)) : VJ LR w X nL t r M1 M lv (.int (i32 v) :: .ref (wa w 0) :: st) pc := vj_putf G lkR_0 (by decide) (by decide) clR_0 inR_0 toR_0 nmR_0 (j := 28) (by decide) q_1334 rfl rfl (ty := .boolean) (by decide +kernel) (by rcases hv with rfl | rfl <;> rfl) (by rcases hv with rfl | rfl <;> rfl) rfl (fun c hc => by cases hc; rfl) hv hdg kk
theorem pfR_m_99 {w : Wd} {X : Cx} {cc : ByteArray} {nL fr lo t pc : Nat} {r : Int} {M1 M : Mm} {lv : List (Nat × Value)} {st : List Value} (G : Gc LR w X "WhoRulesModel" cc nL fr lo) {v : Int} (hv : inR v) (hdg : decode cc pc = .ok (.putfield 99, 3)) (kk : VJ LR w X nL t r M1 (mset M 0 29 v) lv st (pc + 3)) : VJ LR w X nL t r M1 M lv (.int (i32 v) :: .ref (wa w 0) :: st) pc := vj_putf G lkR_0 (by decide) (by decide) clR_0 inR_0 toR_0 nmR_0 (j := 29) (by decide) q_1335 rfl rfl (ty := .int) (by decide +kernel) rfl rfl rfl (fun c hc => by cases hc; rfl) hv hdg kk
theorem pfR_m_102 {w : Wd} {X : Cx} {cc : ByteArray} {nL fr lo t pc : Nat} {r : Int} {M1 M : Mm} {lv : List (Nat × Value)} {st : List Value} (G : Gc LR w X "WhoRulesModel" cc nL fr lo) {v : Int} (hv : inR v) (hdg : decode cc pc = .ok (.putfield 102, 3)) (kk : VJ LR w X nL t r M1 (mset M 0 30 v) lv st (pc + 3)) : VJ LR w X nL t r M1 M lv (.int (i32 v) :: .ref (wa w 0) :: st) pc := vj_putf G lkR_0 (by decide) (by decide) clR_0 inR_0 toR_0 nmR_0 (j := 30) (by decide) q_1336 rfl rfl (ty := .int) (by decide +kernel) rfl rfl rfl (fun c hc => by cases hc; rfl) hv hdg kk
theorem pfR_m_105 {w : Wd} {X : Cx} {cc : ByteArray} {nL fr lo t pc : Nat} {r : Int} {M1 M : Mm} {lv : List (Nat × Value)} {st : List Value} (G : Gc LR w X "WhoRulesModel" cc nL fr lo) {v : Int} (hv : inR v) (hdg : decode cc pc = .ok (.putfield 105, 3)) (kk : VJ LR w X nL t r M1 (mset M 0 31 v) lv st (pc + 3)) : VJ LR w X nL t r M1 M lv (.int (i32 v) :: .ref (wa w 0) :: st) pc := vj_putf G lkR_0 (by decide) (by decide) clR_0 inR_0 toR_0 nmR_0 (j := 31) (by decide) q_1337 rfl rfl (ty := .int) (by decide +kernel) rfl rfl rfl (fun c hc => by cases hc; rfl) hv hdg kk
theorem pfR_m_108 {w : Wd} {X : Cx} {cc : ByteArray} {nL fr lo t pc : Nat} {r : Int} {M1 M : Mm} {lv : List (Nat × Value)} {st : List Value} (G : Gc LR w X "WhoRulesModel" cc nL fr lo) {v : Int} (hv : inR v) (hdg : decode cc pc = .ok (.putfield 108, 3)) (kk : VJ LR w X nL t r M1 (mset M 0 32 v) lv st (pc + 3)) : VJ LR w X nL t r M1 M lv (.int (i32 v) :: .ref (wa w 0) :: st) pc := vj_putf G lkR_0 (by decide) (by decide) clR_0 inR_0 toR_0 nmR_0 (j := 32) (by decide) q_1338 rfl rfl (ty := .int) (by decide +kernel) rfl rfl rfl (fun c hc => by cases hc; rfl) hv hdg kk
theorem pfR_m_111 {w : Wd} {X : Cx} {cc : ByteArray} {nL fr lo t pc : Nat} {r : Int} {M1 M : Mm} {lv : List (Nat × Value)} {st : List Value} (G : Gc LR w X "WhoRulesModel" cc nL fr lo) {v : Int} (hv : inR v) (hdg : decode cc pc = .ok (.putfield 111, 3)) (kk : VJ LR w X nL t r M1 (mset M 0 33 v) lv st (pc + 3)) : VJ LR w X nL t r M1 M lv (.int (i32 v) :: .ref (wa w 0) :: st) pc := vj_putf G lkR_0 (by decide) (by decide) clR_0 inR_0 toR_0 nmR_0 (j := 33) (by decide) q_1339 rfl rfl (ty := .int) (by decide +kernel) rfl rfl rfl (fun c hc => by cases hc; rfl) hv hdg kk
theorem pfR_m_121 {w : Wd} {X : Cx} {cc : ByteArray} {nL fr lo t pc : Nat} {r : Int} {M1 M : Mm} {lv : List (Nat × Value)} {st : List Value} (G : Gc LR w X "WhoRulesModel" cc nL fr lo) {v : Int} (hv : inR v) (hdg : decode cc pc = .ok (.putfield 121, 3)) (kk : VJ LR w X nL t r M1 (mset M 0 36 v) lv st (pc + 3)) : VJ LR w X nL t r M1 M lv (.int (i32 v) :: .ref (wa w 0) :: st) pc := vj_putf G lkR_0 (by decide) (by decide) clR_0 inR_0 toR_0 nmR_0 (j := 36) (by decide) q_1342 rfl rfl (ty := .int) (by decide +kernel) rfl rfl rfl (fun c hc => by cases hc; rfl) hv hdg kk
theorem pfR_m_124 {w : Wd} {X : Cx} {cc : ByteArray} {nL fr lo t pc : Nat} {r : Int} {M1 M : Mm} {lv : List (Nat × Value)} {st : List Value} (G : Gc LR w X "WhoRulesModel" cc nL fr lo) {v : Int} (hv : inR v) (hdg : decode cc pc = .ok (.putfield 124, 3)) (kk : VJ LR w X nL t r M1 (mset M 0 37 v) lv st (pc + 3)) : VJ LR w X nL t r M1 M lv (.int (i32 v) :: .ref (wa w 0) :: st) pc := vj_putf G lkR_0 (by decide) (by decide) clR_0 inR_0 toR_0 nmR_0 (j := 37) (by decide) q_1343 rfl rfl (ty := .int) (by decide +kernel) rfl rfl rfl (fun c hc => by cases hc; rfl) hv hdg kk
theorem pfR_m_127 {w : Wd} {X : Cx} {cc : ByteArray} {nL fr lo t pc : Nat} {r : Int} {M1 M : Mm} {lv : List (Nat × Value)} {st : List Value} (G : Gc LR w X "WhoRulesModel" cc nL fr lo) {v : Int} (hv : inR v) (hdg : decode cc pc = .ok (.putfield 127, 3)) (kk : VJ LR w X nL t r M1 (mset M 0 38 v) lv st (pc + 3)) : VJ LR w X nL t r M1 M lv (.int (i32 v) :: .ref (wa w 0) :: st) pc := vj_putf G lkR_0 (by decide) (by decide) clR_0 inR_0 toR_0 nmR_0 (j := 38) (by decide) q_1344 rfl rfl (ty := .int) (by decide +kernel) rfl rfl rfl (fun c hc => by cases hc; rfl) hv hdg kk
theorem pfR_m_157 {w : Wd} {X : Cx} {cc : ByteArray} {nL fr lo t pc : Nat} {r : Int} {M1 M : Mm} {lv : List (Nat × Value)} {st : List Value} (G : Gc LR w X "WhoRulesModel" cc nL fr lo) {v : Int} (hv : inR v) (hdg : decode cc pc = .ok (.putfield 157, 3)) (kk : VJ LR w X nL t r M1 (mset M 0 48 v) lv st (pc + 3)) : VJ LR w X nL t r M1 M lv (.int (i32 v) :: .ref (wa w 0) :: st) pc := vj_putf G lkR_0 (by decide) (by decide) clR_0 inR_0 toR_0 nmR_0 (j := 48) (by decide) q_1354 rfl rfl (ty := .int) (by decide +kernel) rfl rfl rfl (fun c hc => by cases hc; rfl) hv hdg kk
theorem pfR_m_166 {w : Wd} {X : Cx} {cc : ByteArray} {nL fr lo t pc : Nat} {r : Int} {M1 M : Mm} {lv : List (Nat × Value)} {st : List Value} (G : Gc LR w X "WhoRulesModel" cc nL fr lo) {v : Int} (hv : inR v) (hdg : decode cc pc = .ok (.putfield 166, 3)) (kk : VJ LR w X nL t r M1 (mset M 0 51 v) lv st (pc + 3)) : VJ LR w X nL t r M1 M lv (.int (i32 v) :: .ref (wa w 0) :: st) pc := vj_putf G lkR_0 (by decide) (by decide) clR_0 inR_0 toR_0 nmR_0 (j := 51) (by decide) q_1357 rfl rfl (ty := .int) (by decide +kernel) rfl rfl rfl (fun c hc => by cases hc; rfl) hv hdg kk
theorem pfR_m_179 {w : Wd} {X : Cx} {cc : ByteArray} {nL fr lo t pc : Nat} {r : Int} {M1 M : Mm} {lv : List (Nat × Value)} {st : List Value} (G : Gc LR w X "WhoRulesModel" cc nL fr lo) {v : Int} (hv : inR v) (hdg : decode cc pc = .ok (.putfield 179, 3)) (kk : VJ LR w X nL t r M1 (mset M 0 55 v) lv st (pc + 3)) : VJ LR w X nL t r M1 M lv (.int (i32 v) :: .ref (wa w 0) :: st) pc := vj_putf G lkR_0 (by decide) (by decide) clR_0 inR_0 toR_0 nmR_0 (j := 55) (by decide) q_1361 rfl rfl (ty := .int) (by decide +kernel) rfl rfl rfl (fun c hc => by cases hc; rfl) hv hdg kk
theorem pfR_m_194 {w : Wd} {X : Cx} {cc : ByteArray} {nL fr lo t pc : Nat} {r : Int} {M1 M : Mm} {lv : List (Nat × Value)} {st : List Value} (G : Gc LR w X "WhoRulesModel" cc nL fr lo) {v : Int} (hv : inR v) (hdg : decode cc pc = .ok (.putfield 194, 3)) (kk : VJ LR w X nL t r M1 (mset M 0 60 v) lv st (pc + 3)) : VJ LR w X nL t r M1 M lv (.int (i32 v) :: .ref (wa w 0) :: st) pc := vj_putf G lkR_0 (by decide) (by decide) clR_0 inR_0 toR_0 nmR_0 (j := 60) (by decide) q_1366 rfl rfl (ty := .int) (by decide +kernel) rfl rfl rfl (fun c hc => by cases hc; rfl) hv hdg kk
theorem pfR_m_197 {w : Wd} {X : Cx} {cc : ByteArray} {nL fr lo t pc : Nat} {r : Int} {M1 M : Mm} {lv : List (Nat × Value)} {st : List Value} (G : Gc LR w X "WhoRulesModel" cc nL fr lo) {v : Int} (hv : in64 v) (hdg : decode cc pc = .ok (.putfield 197, 3)) (kk : VJ LR w X nL t r M1 (mset M 0 61 v) lv st (pc + 3)) : VJ LR w X nL t r M1 M lv (.long (i64 v) :: .ref (wa w 0) :: st) pc := vj_putf G lkR_0 (by decide) (by decide) clR_0 inR_0 toR_0 nmR_0 (j := 61) (by decide) q_1367 rfl rfl (ty := .long) (by decide +kernel) rfl rfl rfl (fun c hc => by cases hc; rfl) hv hdg kk
theorem pfR_m_201 {w : Wd} {X : Cx} {cc : ByteArray} {nL fr lo t pc : Nat} {r : Int} {M1 M : Mm} {lv : List (Nat × Value)} {st : List Value} (G : Gc LR w X "WhoRulesModel" cc nL fr lo) {v : Int} (hv : inR v) (hdg : decode cc pc = .ok (.putfield 201, 3)) (kk : VJ LR w X nL t r M1 (mset M 0 62 v) lv st (pc + 3)) : VJ LR w X nL t r M1 M lv (.int (i32 v) :: .ref (wa w 0) :: st) pc := vj_putf G lkR_0 (by decide) (by decide) clR_0 inR_0 toR_0 nmR_0 (j := 62) (by decide) q_1368 rfl rfl (ty := .int) (by decide +kernel) rfl rfl rfl (fun c hc => by cases hc; rfl) hv hdg kk
theorem pfR_m_204 {w : Wd} {X : Cx} {cc : ByteArray} {nL fr lo t pc : Nat} {r : Int} {M1 M : Mm} {lv : List (Nat × Value)} {st : List Value} (G : Gc LR w X "WhoRulesModel" cc nL fr lo) {v : Int} (hv : inR v) (hdg : decode cc pc = .ok (.putfield 204, 3)) (kk : VJ LR w X nL t r M1 (mset M 0 63 v) lv st (pc + 3)) : VJ LR w X nL t r M1 M lv (.int (i32 v) :: .ref (wa w 0) :: st) pc := vj_putf G lkR_0 (by decide) (by decide) clR_0 inR_0 toR_0 nmR_0 (j := 63) (by decide) q_1369 rfl rfl (ty := .int) (by decide +kernel) rfl rfl rfl (fun c hc => by cases hc; rfl) hv hdg kk
theorem pfR_m_225 {w : Wd} {X : Cx} {cc : ByteArray} {nL fr lo t pc : Nat} {r : Int} {M1 M : Mm} {lv : List (Nat × Value)} {st : List Value} (G : Gc LR w X "WhoRulesModel" cc nL fr lo) {v : Int} (hv : inR v) (hdg : decode cc pc = .ok (.putfield 225, 3)) (kk : VJ LR w X nL t r M1 (mset M 0 70 v) lv st (pc + 3)) : VJ LR w X nL t r M1 M lv (.int (i32 v) :: .ref (wa w 0) :: st) pc := vj_putf G lkR_0 (by decide) (by decide) clR_0 inR_0 toR_0 nmR_0 (j := 70) (by decide) q_1376 rfl rfl (ty := .int) (by decide +kernel) rfl rfl rfl (fun c hc => by cases hc; rfl) hv hdg kk
theorem pfR_m_228 {w : Wd} {X : Cx} {cc : ByteArray} {nL fr lo t pc : Nat} {r : Int} {M1 M : Mm} {lv : List (Nat × Value)} {st : List Value} (G : Gc LR w X "WhoRulesModel" cc nL fr lo) {v : Int} (hv : inR v) (hdg : decode cc pc = .ok (.putfield 228, 3)) (kk : VJ LR w X nL t r M1 (mset M 0 71 v) lv st (pc + 3)) : VJ LR w X nL t r M1 M lv (.int (i32 v) :: .ref (wa w 0) :: st) pc := vj_putf G lkR_0 (by decide) (by decide) clR_0 inR_0 toR_0 nmR_0 (j := 71) (by decide) q_1377 rfl rfl (ty := .int) (by decide +kernel) rfl rfl rfl (fun c hc => by cases hc; rfl) hv hdg kk
