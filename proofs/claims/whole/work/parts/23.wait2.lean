section COPY
variable {L : Lay} {w : Wd} {X : Cx} {own : String} {cc : ByteArray} {nL fr lo : Nat} {t : Nat} {r : Int} {M1 M : Mm} {lv : List (Nat × Value)} {st st0 : List Value} {pc : Nat}
theorem vj_acopyI (G : Gc L w X own cc nL fr lo) {k1 n1 b1 k2 n2 b2 idx : Nat} {i j n : Int} (hk1 : lk L k1 = (0, n1, b1)) (hk2 : lk L k2 = (0, n2, b2)) (hn1 : n1 < 2147483648) (hn2 : n2 < 2147483648) (h9 : k2 < 900) (hh : k2 ≠ lh L) (hb : 0 ≤ i ∧ 0 ≤ j ∧ 0 ≤ n ∧ i + n ≤ n1 ∧ j + n ≤ n2) (q1 : Cond.methodLink own idx arraycopyName ∈ ALL) (q2 : Cond.native arraycopyName ∈ ALL) (q3 : Cond.static arraycopyName ∈ ALL) (q4 : Cond.initialized "java/lang/System" ∈ ALL) (hdg : decode cc pc = .ok (.invokestatic idx, 3)) (kk : VJ L w X nL t r M1 (mcpy M k1 i.toNat k2 j.toNat n.toNat) lv st (pc + 3)) (hf : 1 ≤ fr := by decide) (hlo : 40 ≤ lo := by decide) (hW : (st.map fun v => v.category).sum ≤ 8 := by exact Nat.le_of_ble_eq_true rfl) : VJ L w X nL t r M1 M lv (.int (i32 n) :: .int (i32 j) :: .ref (wa w k2) :: .int (i32 i) :: .ref (wa w k1) :: st) pc := by
  intro H locs ls hP hS hl T hT Y
  obtain ⟨b0, b2, b3, b4, b5⟩ := hb
  have hts := G.2.2.2.2.1
  have hp2 : pr L w k2 := pr_lt hk2 (by decide)
  have hc1 := rp_arr hP hk1
  have hc2 := rp_arr hP hk2
  have hiR : inR i := ⟨by omega, by omega⟩
  have hjR : inR j := ⟨by omega, by omega⟩
  have hnR : inR n := ⟨by omega, by omega⟩
  have ei : (i32 i).toNatClampNeg = i.toNat := by unfold i32; exact Int32.toNatClampNeg_ofInt_of_le (by omega) (by omega)
  have ej : (i32 j).toNatClampNeg = j.toNat := by unfold i32; exact Int32.toNatClampNeg_ofInt_of_le (by omega) (by omega)
  have en : (i32 n).toNatClampNeg = n.toNat := by unfold i32; exact Int32.toNatClampNeg_ofInt_of_le (by omega) (by omega)
  obtain ⟨-, g1, hg1, cm1, hkk1⟩ := gx_arr G 0 rfl n1 (fun q => Value.int (i32 (M k1 q)))
  obtain ⟨-, g2, hg2, cm2, hkk2⟩ := gx_arr G 0 rfl n2 (fun q => Value.int (i32 (M k2 q)))
  have hneg : ∀ z : Int, inR z → 0 ≤ z → ¬ i32 z < 0 := fun z hz h0 h => by
    rw [i32_0, i32_lt hz ir_0] at h; omega
  obtain ⟨vm', Y', step⟩ := Y.arraycopy G.1 G.2.2.2.1 (hts _ q1) (hts _ q2) (hts _ q3) (hts _ q4) (src := wa w k1) (dst := wa w k2) (srcPos := i32 i) (destPos := i32 j) (n := i32 n) (by rw [hT]; exact hc1) (by rw [hT]; exact hc2)
    (fun _ h => by cases h) (fun _ h => by cases h) (fun h => by cases h) (fun h => by cases h) hg1 hg2 hkk1 hkk2 rfl (hneg i hiR b0) (hneg j hjR b2) (hneg n hnR b3)
    (by rw [t_i32 hiR, t_i32 hnR, arrV_size]; omega) (by rw [t_i32 hjR, t_i32 hnR, arrV_size]; omega)
    (fun vm₁ _ q hq => by
      have e : (arrV (wT w 0) n1 (fun q => Value.int (i32 (M k1 q)))).slots.getD ((i32 i).toNatClampNeg + q) .null = Value.int (i32 (M k1 (i.toNat + q))) := by
        rw [Array.getD_eq_getD_getElem?, ei, arrV_read _ _ (by omega)]; rfl
      exact ⟨by rw [e]; rfl, by rw [e]; exact trivial⟩)
    (g := F0 (xm X) pc ls (.int (i32 n) :: .int (i32 j) :: .ref (wa w k2) :: .int (i32 i) :: .ref (wa w k1) :: st)) rfl (by rw [G.2.2.1]; exact hl.1) (rest := st) rfl (by rw [G.2.1]; exact hdg) (Nat.le_trans hf G.2.2.2.2.2.2.2.2.2.2.2.1) (by
      have h1 := Nat.le_trans hlo G.2.2.2.2.2.2.2.2.2.2.2.2
      have h2 : nativeFrameWords "java/lang/System" "arraycopy" 5 + 11 ≤ 32 := by decide +kernel
      show 2 * 0 + _ + _ ≤ _
      omega)
  have e1 : copied (arrV (wT w 0) n1 (fun q => Value.int (i32 (M k1 q)))) (arrV (wT w 0) n2 (fun q => Value.int (i32 (M k2 q)))) (i32 i) (i32 j) (i32 n) = arrV (wT w 0) n2 (fun q => Value.int (i32 (mcpy M k1 i.toNat k2 j.toNat n.toNat k2 q))) := by
    refine (va_copied (fun z : Int => Value.int (i32 (z))) (wT w 0) (wT w 0) (M k1) (M k2) (by omega)).trans ?_
    congr 1
    funext q
    unfold va_cpy mcpy
    rw [mr_eq, ei, ej, en]
  rw [e1] at Y' step
  have hlt : wa w k2 < H.size := (Array.getElem?_eq_some_iff.mp hc2).1
  have hheap : ((T.setVm vm').setCell (wa w k2) (arrV (wT w 0) n2 (fun q => Value.int (i32 (mcpy M k1 i.toNat k2 j.toNat n.toNat k2 q))))).heap = H.setIfInBounds (wa w k2) (arrV (wT w 0) n2 (fun q => Value.int (i32 (mcpy M k1 i.toNat k2 j.toNat n.toNat k2 q)))) := by rw [← hT]; rfl
  have oq : ∀ q : Nat, q ≠ wa w k2 → (H.setIfInBounds (wa w k2) (arrV (wT w 0) n2 (fun q => Value.int (i32 (mcpy M k1 i.toNat k2 j.toNat n.toNat k2 q)))))[q]? = H[q]? := fun q hq => by simp [Array.getElem?_setIfInBounds, Ne.symm hq]
  have hkm : ∀ q, rT (tO L k2 q) (mcpy M k1 i.toNat k2 j.toNat n.toNat k2 q) := by
    intro q
    have t1 : ∀ q, tO L k1 q = 0 := fun q => by unfold tO; rw [hk1]; rfl
    have t2 : ∀ q, tO L k2 q = 0 := fun q => by unfold tO; rw [hk2]; rfl
    unfold mcpy
    rw [mr_eq]
    split
    · have h := hP.2.1 k1 (i.toNat + (q - j.toNat))
      rw [t1] at h; rw [t2]; exact h
    · exact hP.2.1 k2 q
  obtain ⟨u, a1, b1⟩ := kk _ _ ls (rp_row hP (gx_ij G) (k_le hk2 (by decide)) h9 hh (f := mcpy M k1 i.toNat k2 j.toNat n.toNat k2) (by
      unfold eO
      rw [hk2, mr_eq]
      show (H.setIfInBounds (wa w k2) (arrV (wT w 0) n2 (fun q => Value.int (i32 (mcpy M k1 i.toNat k2 j.toNat n.toNat k2 q)))))[wa w k2]? = some (arrV (wT w 0) n2 (fun q => Value.int (i32 (mcpy M k1 i.toNat k2 j.toNat n.toNat k2 q))))
      simp [Array.getElem?_setIfInBounds, hlt]) (by simp) oq hkm |> fun h => by
        have e2 : mrow M k2 (mcpy M k1 i.toNat k2 j.toNat n.toNat k2) = mcpy M k1 i.toNat k2 j.toNat n.toNat := by
          funext k' q
          unfold mcpy
          by_cases e : k' = k2
          · subst e; rw [mr_eq, mr_eq]
          · rw [mr_ne e, mr_ne e]
        rw [e2] at h
        exact h) ⟨by simp; exact hS.1, fun q g3 g4 => by
      rw [oq q (fun e => g4 (G.2.2.2.2.2.2.2.2.1.1 _ ⟨k2, hp2, e⟩))]
      exact hS.2.1 q g3 g4, fun q hq => by
      rcases List.mem_append.mp hq with h | h
      · exact hS.2.2 q h
      · obtain ⟨z, -, hz⟩ := List.mem_map.mp h
        rw [← hz]
        exact G.2.2.2.2.2.2.2.2.1.1 _ ⟨k2, hp2, rfl⟩⟩ hl _ hheap Y'
  exact ⟨u, step u a1, b1⟩
theorem vj_acopyL (G : Gc L w X own cc nL fr lo) {k1 n1 b1 k2 n2 b2 idx : Nat} {i j n : Int} (hk1 : lk L k1 = (2, n1, b1)) (hk2 : lk L k2 = (2, n2, b2)) (hn1 : n1 < 2147483648) (hn2 : n2 < 2147483648) (h9 : k2 < 900) (hh : k2 ≠ lh L) (hb : 0 ≤ i ∧ 0 ≤ j ∧ 0 ≤ n ∧ i + n ≤ n1 ∧ j + n ≤ n2) (q1 : Cond.methodLink own idx arraycopyName ∈ ALL) (q2 : Cond.native arraycopyName ∈ ALL) (q3 : Cond.static arraycopyName ∈ ALL) (q4 : Cond.initialized "java/lang/System" ∈ ALL) (hdg : decode cc pc = .ok (.invokestatic idx, 3)) (kk : VJ L w X nL t r M1 (mcpy M k1 i.toNat k2 j.toNat n.toNat) lv st (pc + 3)) (hf : 1 ≤ fr := by decide) (hlo : 40 ≤ lo := by decide) (hW : (st.map fun v => v.category).sum ≤ 8 := by exact Nat.le_of_ble_eq_true rfl) : VJ L w X nL t r M1 M lv (.int (i32 n) :: .int (i32 j) :: .ref (wa w k2) :: .int (i32 i) :: .ref (wa w k1) :: st) pc := by
  intro H locs ls hP hS hl T hT Y
  obtain ⟨b0, b2, b3, b4, b5⟩ := hb
  have hts := G.2.2.2.2.1
  have hp2 : pr L w k2 := pr_lt hk2 (by decide)
  have hc1 := rp_arl hP hk1
  have hc2 := rp_arl hP hk2
  have hiR : inR i := ⟨by omega, by omega⟩
  have hjR : inR j := ⟨by omega, by omega⟩
  have hnR : inR n := ⟨by omega, by omega⟩
  have ei : (i32 i).toNatClampNeg = i.toNat := by unfold i32; exact Int32.toNatClampNeg_ofInt_of_le (by omega) (by omega)
  have ej : (i32 j).toNatClampNeg = j.toNat := by unfold i32; exact Int32.toNatClampNeg_ofInt_of_le (by omega) (by omega)
  have en : (i32 n).toNatClampNeg = n.toNat := by unfold i32; exact Int32.toNatClampNeg_ofInt_of_le (by omega) (by omega)
  obtain ⟨-, g1, hg1, cm1, hkk1⟩ := gx_arr G 2 rfl n1 (fun q => Value.long (i64 (M k1 q)))
  obtain ⟨-, g2, hg2, cm2, hkk2⟩ := gx_arr G 2 rfl n2 (fun q => Value.long (i64 (M k2 q)))
  have hneg : ∀ z : Int, inR z → 0 ≤ z → ¬ i32 z < 0 := fun z hz h0 h => by
    rw [i32_0, i32_lt hz ir_0] at h; omega
  obtain ⟨vm', Y', step⟩ := Y.arraycopy G.1 G.2.2.2.1 (hts _ q1) (hts _ q2) (hts _ q3) (hts _ q4) (src := wa w k1) (dst := wa w k2) (srcPos := i32 i) (destPos := i32 j) (n := i32 n) (by rw [hT]; exact hc1) (by rw [hT]; exact hc2)
    (fun _ h => by cases h) (fun _ h => by cases h) (fun h => by cases h) (fun h => by cases h) hg1 hg2 hkk1 hkk2 rfl (hneg i hiR b0) (hneg j hjR b2) (hneg n hnR b3)
    (by rw [t_i32 hiR, t_i32 hnR, arrV_size]; omega) (by rw [t_i32 hjR, t_i32 hnR, arrV_size]; omega)
    (fun vm₁ _ q hq => by
      have e : (arrV (wT w 2) n1 (fun q => Value.long (i64 (M k1 q)))).slots.getD ((i32 i).toNatClampNeg + q) .null = Value.long (i64 (M k1 (i.toNat + q))) := by
        rw [Array.getD_eq_getD_getElem?, ei, arrV_read _ _ (by omega)]; rfl
      exact ⟨by rw [e]; rfl, by rw [e]; exact trivial⟩)
    (g := F0 (xm X) pc ls (.int (i32 n) :: .int (i32 j) :: .ref (wa w k2) :: .int (i32 i) :: .ref (wa w k1) :: st)) rfl (by rw [G.2.2.1]; exact hl.1) (rest := st) rfl (by rw [G.2.1]; exact hdg) (Nat.le_trans hf G.2.2.2.2.2.2.2.2.2.2.2.1) (by
      have h1 := Nat.le_trans hlo G.2.2.2.2.2.2.2.2.2.2.2.2
      have h2 : nativeFrameWords "java/lang/System" "arraycopy" 5 + 11 ≤ 32 := by decide +kernel
      show 2 * 0 + _ + _ ≤ _
      omega)
  have e1 : copied (arrV (wT w 2) n1 (fun q => Value.long (i64 (M k1 q)))) (arrV (wT w 2) n2 (fun q => Value.long (i64 (M k2 q)))) (i32 i) (i32 j) (i32 n) = arrV (wT w 2) n2 (fun q => Value.long (i64 (mcpy M k1 i.toNat k2 j.toNat n.toNat k2 q))) := by
    refine (va_copied (fun z : Int => Value.long (i64 (z))) (wT w 2) (wT w 2) (M k1) (M k2) (by omega)).trans ?_
    congr 1
    funext q
    unfold va_cpy mcpy
    rw [mr_eq, ei, ej, en]
  rw [e1] at Y' step
  have hlt : wa w k2 < H.size := (Array.getElem?_eq_some_iff.mp hc2).1
  have hheap : ((T.setVm vm').setCell (wa w k2) (arrV (wT w 2) n2 (fun q => Value.long (i64 (mcpy M k1 i.toNat k2 j.toNat n.toNat k2 q))))).heap = H.setIfInBounds (wa w k2) (arrV (wT w 2) n2 (fun q => Value.long (i64 (mcpy M k1 i.toNat k2 j.toNat n.toNat k2 q)))) := by rw [← hT]; rfl
  have oq : ∀ q : Nat, q ≠ wa w k2 → (H.setIfInBounds (wa w k2) (arrV (wT w 2) n2 (fun q => Value.long (i64 (mcpy M k1 i.toNat k2 j.toNat n.toNat k2 q)))))[q]? = H[q]? := fun q hq => by simp [Array.getElem?_setIfInBounds, Ne.symm hq]
  have hkm : ∀ q, rT (tO L k2 q) (mcpy M k1 i.toNat k2 j.toNat n.toNat k2 q) := by
    intro q
    have t1 : ∀ q, tO L k1 q = 2 := fun q => by unfold tO; rw [hk1]; rfl
    have t2 : ∀ q, tO L k2 q = 2 := fun q => by unfold tO; rw [hk2]; rfl
    unfold mcpy
    rw [mr_eq]
    split
    · have h := hP.2.1 k1 (i.toNat + (q - j.toNat))
      rw [t1] at h; rw [t2]; exact h
    · exact hP.2.1 k2 q
  obtain ⟨u, a1, b1⟩ := kk _ _ ls (rp_row hP (gx_ij G) (k_le hk2 (by decide)) h9 hh (f := mcpy M k1 i.toNat k2 j.toNat n.toNat k2) (by
      unfold eO
      rw [hk2, mr_eq]
      show (H.setIfInBounds (wa w k2) (arrV (wT w 2) n2 (fun q => Value.long (i64 (mcpy M k1 i.toNat k2 j.toNat n.toNat k2 q)))))[wa w k2]? = some (arrV (wT w 2) n2 (fun q => Value.long (i64 (mcpy M k1 i.toNat k2 j.toNat n.toNat k2 q))))
      simp [Array.getElem?_setIfInBounds, hlt]) (by simp) oq hkm |> fun h => by
        have e2 : mrow M k2 (mcpy M k1 i.toNat k2 j.toNat n.toNat k2) = mcpy M k1 i.toNat k2 j.toNat n.toNat := by
          funext k' q
          unfold mcpy
          by_cases e : k' = k2
          · subst e; rw [mr_eq, mr_eq]
          · rw [mr_ne e, mr_ne e]
        rw [e2] at h
        exact h) ⟨by simp; exact hS.1, fun q g3 g4 => by
      rw [oq q (fun e => g4 (G.2.2.2.2.2.2.2.2.1.1 _ ⟨k2, hp2, e⟩))]
      exact hS.2.1 q g3 g4, fun q hq => by
      rcases List.mem_append.mp hq with h | h
      · exact hS.2.2 q h
      · obtain ⟨z, -, hz⟩ := List.mem_map.mp h
        rw [← hz]
        exact G.2.2.2.2.2.2.2.2.1.1 _ ⟨k2, hp2, rfl⟩⟩ hl _ hheap Y'
  exact ⟨u, step u a1, b1⟩
end COPY
