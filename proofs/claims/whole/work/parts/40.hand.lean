/-! By hand: the holder at a number, the head of a family, acts, what a holder is taken for. -/
def f_R_holderAt (n : Nat) (x1 : Int) (M : Mm) : Rr := bnd (f_R_isHolder n x1 M) (fun r M1 => if r = 0 then some (-1, M1) else ck (0 ≤ x1 ∧ x1 < 16) (if x1 < M1 16 0 then some (500 + x1, M1) else some (-1, M1)))
def f_R_headOf_41 (n : Nat) (k2 : Int → Int → Int → Mm → Rr) (x1 x2 x3 : Int) (M : Mm) : Rr := k2 x1 x2 (w32 (x3 + 1)) M
def f_R_headOf_2 (n : Nat) (k2 : Int → Int → Int → Mm → Rr) (x1 x2 x3 : Int) (M : Mm) : Rr := if x2 ≤ x3 then some (x2, M) else ck (0 ≤ x3 ∧ x3 < 16) (if M 17 x3.toNat ≠ 3 then f_R_headOf_41 n k2 x1 x2 x3 M else (if x3 < M 16 0 then ck (0 ≤ M 900 x3.toNat ∧ M 900 x3.toNat < 6) (if M 901 x3.toNat ≠ x1 then f_R_headOf_41 n k2 x1 x2 x3 M else some (x3, M)) else f_R_headOf_41 n k2 x1 x2 x3 M))
def lp_R_headOf_2 (n : Nat) : Nat → Int → Int → Int → Mm → Rr
  | 0, _, _, _, _ => none
  | f + 1, x1, x2, x3, M => f_R_headOf_2 n (lp_R_headOf_2 n f) x1 x2 x3 M
def f_R_headOf (n : Nat) (x1 x2 : Int) (M : Mm) : Rr := lp_R_headOf_2 n n x1 x2 0 M
def g_dV (n : Nat) (i x : Int) (M : Mm) : Rr := if M 900 i.toNat = 0 then f_H_doVotesc0 n i x M else if M 900 i.toNat = 1 then f_Hf_doVotesc1 n i x M else if M 900 i.toNat = 2 then f_H_doVotesc2 n i x M else if M 900 i.toNat = 3 then f_Hk_doVotesc3 n i x M else if M 900 i.toNat = 4 then f_H_doVotesc4 n i x M else ck (M 900 i.toNat = 5) (f_Hc_doVotesc5 n i x M)
def g_dO (n : Nat) (i x : Int) (M : Mm) : Rr := if M 900 i.toNat = 0 then f_H_doOwnsc0 n i x M else if M 900 i.toNat = 1 then f_H_doOwnsc1 n i x M else if M 900 i.toNat = 2 then f_Hp_doOwnsc2 n i x M else if M 900 i.toNat = 3 then f_Hk_doOwnsc3 n i x M else if M 900 i.toNat = 4 then f_H_doOwnsc4 n i x M else ck (M 900 i.toNat = 5) (f_H_doOwnsc5 n i x M)
def g_dR (n : Nat) (i x : Int) (M : Mm) : Rr := if M 900 i.toNat = 0 then f_H_doRulesc0 n i x M else if M 900 i.toNat = 1 then f_Hf_doRulesc1 n i x M else if M 900 i.toNat = 2 then f_H_doRulesc2 n i x M else if M 900 i.toNat = 3 then f_H_doRulesc3 n i x M else if M 900 i.toNat = 4 then f_Hu_doRulesc4 n i x M else ck (M 900 i.toNat = 5) (f_Hc_doRulesc5 n i x M)
def g_dU (n : Nat) (i x : Int) (M : Mm) : Rr := if M 900 i.toNat = 0 then f_H_isUnderc0 n i x M else if M 900 i.toNat = 1 then f_H_isUnderc1 n i x M else if M 900 i.toNat = 2 then f_H_isUnderc2 n i x M else if M 900 i.toNat = 3 then f_H_isUnderc3 n i x M else if M 900 i.toNat = 4 then f_H_isUnderc4 n i x M else ck (M 900 i.toNat = 5) (f_H_isUnderc5 n i x M)
def f_W_act (n : Nat) (x1 x2 x3 : Int) (M : Mm) : Rr := bnd (f_R_holderAt n x1 (mset M 10 20 0)) (fun r M1 => if r < 0 then some (0, M1) else if x2 = 0 then g_dV n (r - 500) x3 M1 else if x2 = 1 then g_dO n (r - 500) x3 M1 else if x2 = 2 then g_dR n (r - 500) x3 M1 else some (0, M1))
def f_W_taken (n : Nat) (x1 x2 : Int) (M : Mm) : Rr := if x2 < 0 ∨ 5 < x2 then some (-2, M) else bnd (f_R_holderAt n x1 M) (fun r M1 => if r < 0 then some (-11, M1) else bnd (g_dU n (r - 500) x2 M1) (fun q M2 => if q = 0 then some (-12, M2) else ck (0 ≤ x1 ∧ x1 < 16) (some (M2 17 x1.toNat, M2))))

theorem q_1222 : Cond.selects "WhoRules$Holder" ⟨"WhoRules$Holder", "doRules", "(I)I"⟩ ⟨"WhoRules$Holder", "doRules", "(I)I"⟩ ∈ ALL := all_in 1222 (by decide +kernel) rfl
theorem q_1224 : Cond.selects "WhoRules$Club" ⟨"WhoRules$Holder", "doRules", "(I)I"⟩ ⟨"WhoRules$Club", "doRules", "(I)I"⟩ ∈ ALL := all_in 1224 (by decide +kernel) rfl
theorem q_1225 : Cond.instanceMethod ⟨"WhoRules$Club", "doRules", "(I)I"⟩ ∈ ALL := all_in 1225 (by decide +kernel) rfl
theorem q_1226 : Cond.code ⟨"WhoRules$Club", "doRules", "(I)I"⟩ prog_3_method_3_code 2 (some .int) ∈ ALL := all_in 1226 (by decide +kernel) rfl
theorem q_1240 : Cond.selects "WhoRules$Firm" ⟨"WhoRules$Holder", "doRules", "(I)I"⟩ ⟨"WhoRules$Firm", "doRules", "(I)I"⟩ ∈ ALL := all_in 1240 (by decide +kernel) rfl
theorem q_1241 : Cond.instanceMethod ⟨"WhoRules$Firm", "doRules", "(I)I"⟩ ∈ ALL := all_in 1241 (by decide +kernel) rfl
theorem q_1242 : Cond.code ⟨"WhoRules$Firm", "doRules", "(I)I"⟩ prog_4_method_3_code 2 (some .int) ∈ ALL := all_in 1242 (by decide +kernel) rfl
theorem q_1245 : Cond.selects "WhoRules$Fund" ⟨"WhoRules$Holder", "doRules", "(I)I"⟩ ⟨"WhoRules$Fund", "doRules", "(I)I"⟩ ∈ ALL := all_in 1245 (by decide +kernel) rfl
theorem q_1246 : Cond.selects "WhoRules$Kin" ⟨"WhoRules$Holder", "doRules", "(I)I"⟩ ⟨"WhoRules$Holder", "doRules", "(I)I"⟩ ∈ ALL := all_in 1246 (by decide +kernel) rfl
theorem q_1247 : Cond.selects "WhoRules$Person" ⟨"WhoRules$Holder", "doRules", "(I)I"⟩ ⟨"WhoRules$Holder", "doRules", "(I)I"⟩ ∈ ALL := all_in 1247 (by decide +kernel) rfl
theorem q_1259 : Cond.instanceMethod ⟨"WhoRules$Holder", "isUnder", "(I)Z"⟩ ∈ ALL := all_in 1259 (by decide +kernel) rfl
theorem q_1260 : Cond.selects "WhoRules$Holder" ⟨"WhoRules$Holder", "isUnder", "(I)Z"⟩ ⟨"WhoRules$Holder", "isUnder", "(I)Z"⟩ ∈ ALL := all_in 1260 (by decide +kernel) rfl
theorem q_1261 : Cond.sameMethod "WhoRules$Holder" "WhoRules$Holder" "isUnder" "(I)Z" ∈ ALL := all_in 1261 (by decide +kernel) rfl
theorem q_1262 : Cond.selects "WhoRules$Club" ⟨"WhoRules$Holder", "isUnder", "(I)Z"⟩ ⟨"WhoRules$Holder", "isUnder", "(I)Z"⟩ ∈ ALL := all_in 1262 (by decide +kernel) rfl
theorem q_1263 : Cond.selects "WhoRules$Firm" ⟨"WhoRules$Holder", "isUnder", "(I)Z"⟩ ⟨"WhoRules$Holder", "isUnder", "(I)Z"⟩ ∈ ALL := all_in 1263 (by decide +kernel) rfl
theorem q_1264 : Cond.selects "WhoRules$Fund" ⟨"WhoRules$Holder", "isUnder", "(I)Z"⟩ ⟨"WhoRules$Holder", "isUnder", "(I)Z"⟩ ∈ ALL := all_in 1264 (by decide +kernel) rfl
theorem q_1265 : Cond.selects "WhoRules$Kin" ⟨"WhoRules$Holder", "isUnder", "(I)Z"⟩ ⟨"WhoRules$Holder", "isUnder", "(I)Z"⟩ ∈ ALL := all_in 1265 (by decide +kernel) rfl
theorem q_1266 : Cond.selects "WhoRules$Person" ⟨"WhoRules$Holder", "isUnder", "(I)Z"⟩ ⟨"WhoRules$Holder", "isUnder", "(I)Z"⟩ ∈ ALL := all_in 1266 (by decide +kernel) rfl
theorem q_1267 : Cond.code ⟨"WhoRules$Holder", "isUnder", "(I)Z"⟩ prog_7_method_3_code 2 (some .boolean) ∈ ALL := all_in 1267 (by decide +kernel) rfl
section HROWS
variable {L : Lay} {w : Wd} {X : Cx} {own : String} {cc : ByteArray} {nL fr lo : Nat} {t : Nat} {r : Int} {M1 M : Mm} {lv : List (Nat × Value)} {st st0 : List Value} {pc : Nat}
theorem vj_null (G : Gc L w X own cc nL fr lo) (hdg : decode cc pc = .ok (.aconst_null, 1)) (kk : VJ L w X nL t r M1 M lv (.null :: st) (pc + 1)) : VJ L w X nL t r M1 M lv st pc := fun H locs ls hP hS hl => lv_null G.1 G.2.1 hdg (kk H locs ls hP hS hl)
theorem vj_ifnonnull (G : Gc L w X own cc nL fr lo) {x : Nat} {off : Int} {tgt : Nat} (hdg : decode cc pc = .ok (.ifnonnull off, 3)) (ht : (pc : Int) + off = (tgt : Int)) (kk : VJ L w X nL t r M1 M lv st tgt) : VJ L w X nL t r M1 M lv (.ref x :: st) pc := fun H locs ls hP hS hl => lv_ifnonnull G.1 G.2.1 hdg ht (kk H locs ls hP hS hl)
theorem vj_ifnonnullN (G : Gc L w X own cc nL fr lo) {off : Int} (hdg : decode cc pc = .ok (.ifnonnull off, 3)) (kk : VJ L w X nL t r M1 M lv st (pc + 3)) : VJ L w X nL t r M1 M lv (.null :: st) pc := fun H locs ls hP hS hl => lv_ifnonnullN G.1 G.2.1 hdg (kk H locs ls hP hS hl)
theorem vj_ifnull (G : Gc L w X own cc nL fr lo) {x : Nat} {off : Int} (hdg : decode cc pc = .ok (.ifnull off, 3)) (kk : VJ L w X nL t r M1 M lv st (pc + 3)) : VJ L w X nL t r M1 M lv (.ref x :: st) pc := fun H locs ls hP hS hl => lv_ifnull G.1 G.2.1 hdg (kk H locs ls hP hS hl)
theorem vj_ifnullN (G : Gc L w X own cc nL fr lo) {off : Int} {tgt : Nat} (hdg : decode cc pc = .ok (.ifnull off, 3)) (ht : (pc : Int) + off = (tgt : Int)) (kk : VJ L w X nL t r M1 M lv st tgt) : VJ L w X nL t r M1 M lv (.null :: st) pc := fun H locs ls hP hS hl => lv_ifnullN G.1 G.2.1 hdg ht (kk H locs ls hP hS hl)
theorem vj_astoreN (G : Gc L w X own cc nL fr lo) {i : Nat} {lv2 : List (Nat × Value)} (hdg : decode cc pc = .ok (.astore i, 2)) (hn : i < nL) (hl2 : (i, Value.null) :: lv.filter (fun q => !(q.1 == i) && !(q.1 + 1 == i && q.2.category == 2)) = lv2) (kk : VJ L w X nL t r M1 M lv2 st (pc + 2)) : VJ L w X nL t r M1 M lv (.null :: st) pc := fun H locs ls hP hS hl => lv_astoreN G.1 G.2.1 hdg hl hn hl2 (fun ls2 h2 => kk H locs ls2 hP hS h2)
theorem vj_astore_nN (G : Gc L w X own cc nL fr lo) {k : Fin 4} {i : Nat} {lv2 : List (Nat × Value)} (hdg : decode cc pc = .ok (.astore_n k, 1)) (hi : (k : Nat) = i) (hn : i < nL) (hl2 : (i, Value.null) :: lv.filter (fun q => !(q.1 == i) && !(q.1 + 1 == i && q.2.category == 2)) = lv2) (kk : VJ L w X nL t r M1 M lv2 st (pc + 1)) : VJ L w X nL t r M1 M lv (.null :: st) pc := fun H locs ls hP hS hl => lv_astore_nN G.1 G.2.1 hdg hi hl hn hl2 (fun ls2 h2 => kk H locs ls2 hP hS h2)
theorem vj_aloadN (G : Gc L w X own cc nL fr lo) {i p9 : Nat} (hdg : decode cc pc = .ok (.aload i, 2)) (hg : lv[p9]? = some (i, .null)) (kk : VJ L w X nL t r M1 M lv (.null :: st) (pc + 2)) : VJ L w X nL t r M1 M lv st pc := fun H locs ls hP hS hl => lv_aloadN G.1 G.2.1 hdg (lv_at hl p9 hg) (kk H locs ls hP hS hl)
theorem vj_aret5 {C : String} (G0 : Gx L w X own cc nL fr lo (some (.object C))) {v : Int} (hv : inR v) (hdg : decode cc pc = .ok (.areturn, 1)) : VJ L w X nL 5 v M M lv [if v < 0 then .null else .ref (wa w v.toNat)] pc := by
  intro H locs ls hP hS hl
  have G := G0.1
  have hA := G0.2.2.1
  rw [hA] at hS
  rw [show xQ X = _ from G0.2.2.2]
  rw [hA]
  exact W.aret (v := if v < 0 then .null else .ref (wa w v.toNat)) G.1 G.2.1 G0.2.1 (Or.inl ⟨_, rfl⟩) (by split; exact Or.inl rfl; exact Or.inr ⟨_, rfl⟩) (Ct.end (t := 5) rfl hv hP hS) hS.2.2 hdg G.2.2.2.2.2.2.2.1
end HROWS
theorem nat_500 {x : Int} (h : 0 ≤ x) : (500 + x).toNat = 500 + x.toNat := by omega
theorem holderAt_inv {n : Nat} {x1 : Int} {M : Mm} {r : Int} {M1 : Mm} (h : f_R_holderAt n x1 M = some (r, M1)) : r = -1 ∨ (r = 500 + x1 ∧ 0 ≤ x1 ∧ x1 < 16 ∧ x1 < M1 16 0) := by
  unfold f_R_holderAt at h
  obtain ⟨q, M2, -, h⟩ := bnd_some h
  by_cases c : q = 0
  · rw [if_pos c] at h; cases h; exact Or.inl rfl
  · rw [if_neg c] at h
    obtain ⟨c1, h⟩ := ck_some h
    by_cases c2 : x1 < M2 16 0
    · rw [if_pos c2] at h; cases h; exact Or.inr ⟨rfl, c1.1, c1.2, c2⟩
    · rw [if_neg c2] at h; cases h; exact Or.inl rfl

set_option maxHeartbeats 4000000 in
set_option maxRecDepth 100000 in
theorem ct_R_holderAt {w : Wd} (hij : ij LC w) (n : Nat) (x1 : Int) (hx1 : inR x1) {M : Mm} {r : Int} {M9 : Mm} (hF : f_R_holderAt n x1 M = some (r, M9)) : Ct LC w y_R_holderAt b_R_holderAt 2 (some (.object "WhoRules$Holder")) 1 21 5 [.ref (wa w 1), .int (i32 x1)] M r M9 := by
  refine Ct.of hij KstC (by decide +kernel) (Nat.le_of_ble_eq_true rfl) (fun X G0 => ?_)
  have G := G0.1
  show VJ LC w X 2 5 r M9 M [(0, .ref (wa w 1)), (1, .int (i32 x1))] [] 0
  unfold f_R_holderAt at hF
  obtain ⟨r1, M1, e1, hF⟩ := bnd_some hF
  refine vj_aload_n G (p9 := 0) d_R_holderAt_0 rfl rfl ?_
  refine vj_iload_n G (p9 := 1) d_R_holderAt_1 rfl rfl ?_
  refine vj_callV3 G (ct_R_isHolder (gx_ij G) n x1 hx1 e1) lkC_1 clC_7 rfl q_584 cq_R_isHolder rfl (by decide) (by decide) (Nat.le_of_ble_eq_true rfl) d_R_holderAt_2 rfl (fun hr1 => ?_)
  have nullEnd : ∀ pc9 lv9, decode b_R_holderAt pc9 = .ok (.areturn, 1) → r = -1 → M9 = M1 → VJ LC w X 2 5 r M9 M1 lv9 [.null] pc9 := by
    intro pc9 lv9 hd e1 e2
    subst e1; subst e2
    exact vj_aret5 G0 (v := -1) ⟨by decide, by decide⟩ hd
  refine vj_if_eq G (tgt := 17) d_R_holderAt_5 (by decide) (ir_b hr1) (fun c => ?_) (fun c => ?_)
  · rw [if_pos c] at hF
    cases hF
    refine vj_null G d_R_holderAt_17 ?_
    exact nullEnd _ _ d_R_holderAt_18 rfl rfl
  · rw [if_neg c] at hF
    obtain ⟨c1, hF⟩ := ck_some hF
    refine vj_aload_n G (p9 := 0) d_R_holderAt_8 rfl rfl ?_
    refine vj_getf G lkC_1 clC_7 inC_7 (j := 5) (by decide) q_169 rfl (fvs_get flC_7_5) d_R_holderAt_9 ?_
    refine vj_iload_n G (p9 := 1) d_R_holderAt_12 rfl rfl ?_
    refine vj_wr (fun h16 _ _ => ?_)
    refine vj_aald7 G (k := 16) (x := x1) lkC_16 (by decide) c1 d_R_holderAt_13 (fun c2 => ?_) (fun c2 => ?_)
    · rw [if_pos (by rw [show M1 16 0 = wn w from h16]; exact c2)] at hF
      cases hF
      refine vj_goto G (tgt := 18) d_R_holderAt_14 (by decide) ?_
      have e := vj_aret5 (L := LC) (lv := [(0, .ref (wa w 1)), (1, .int (i32 x1))]) (M := M9) G0 (v := 500 + x1) ⟨by omega, by omega⟩ d_R_holderAt_18
      rw [if_neg (by omega), nat_500 c1.1] at e
      exact e
    · rw [if_neg (by rw [show M1 16 0 = wn w from h16]; exact c2)] at hF
      cases hF
      refine vj_goto G (tgt := 18) d_R_holderAt_14 (by decide) ?_
      exact nullEnd _ _ d_R_holderAt_18 rfl rfl
theorem vj_hfam {w : Wd} {X : Cx} {cc : ByteArray} {nL fr lo t pc : Nat} {r : Int} {M1 M : Mm} {lv : List (Nat × Value)} {st : List Value} (G : Gc LC w X "WhoRules$Register" cc nL fr lo) {x : Int} (h1 : 0 ≤ x ∧ x < 16) (h2 : x < wn w) (h3 : 0 ≤ M 900 x.toNat ∧ M 900 x.toNat < 6) (hdg : decode cc pc = .ok (.getfield 108, 3)) (kk : VJ LC w X nL t r M1 M lv (.int (i32 (M 901 x.toNat)) :: st) (pc + 3)) : VJ LC w X nL t r M1 M lv (.ref (wa w (500 + x.toNat)) :: st) pc := by
  refine vj_wr (fun _ _ h901 => ?_)
  by_cases c0 : M 900 x.toNat = 0
  · exact vj_wr (fun _ h9 _ => vj_hgetf G (c := 0) ⟨h1.1, h1.2, h2, by rw [← h9]; exact c0⟩ clC_0 inC_0 (j := 1) (by decide) q_517 (fun _ h => h) rfl hdg (by rw [h901] at kk; exact kk))
  by_cases c1 : M 900 x.toNat = 1
  · exact vj_wr (fun _ h9 _ => vj_hgetf G (c := 1) ⟨h1.1, h1.2, h2, by rw [← h9]; exact c1⟩ clC_1 inC_1 (j := 1) (by decide) q_517 (fun _ h => h) rfl hdg (by rw [h901] at kk; exact kk))
  by_cases c2 : M 900 x.toNat = 2
  · exact vj_wr (fun _ h9 _ => vj_hgetf G (c := 2) ⟨h1.1, h1.2, h2, by rw [← h9]; exact c2⟩ clC_2 inC_2 (j := 1) (by decide) q_517 (fun _ h => h) rfl hdg (by rw [h901] at kk; exact kk))
  by_cases c3 : M 900 x.toNat = 3
  · exact vj_wr (fun _ h9 _ => vj_hgetf G (c := 3) ⟨h1.1, h1.2, h2, by rw [← h9]; exact c3⟩ clC_3 inC_3 (j := 1) (by decide) q_517 (fun _ h => h) rfl hdg (by rw [h901] at kk; exact kk))
  by_cases c4 : M 900 x.toNat = 4
  · exact vj_wr (fun _ h9 _ => vj_hgetf G (c := 4) ⟨h1.1, h1.2, h2, by rw [← h9]; exact c4⟩ clC_4 inC_4 (j := 1) (by decide) q_517 (fun _ h => h) rfl hdg (by rw [h901] at kk; exact kk))
  by_cases c5 : M 900 x.toNat = 5
  · exact vj_wr (fun _ h9 _ => vj_hgetf G (c := 5) ⟨h1.1, h1.2, h2, by rw [← h9]; exact c5⟩ clC_5 inC_5 (j := 1) (by decide) q_517 (fun _ h => h) rfl hdg (by rw [h901] at kk; exact kk))
  omega
set_option maxHeartbeats 4000000 in
set_option maxRecDepth 100000 in
theorem wl_R_headOf_2 {w : Wd} {X : Cx} {r : Int} {M9 : Mm} (G0 : Gx LC w X "WhoRules$Register" b_R_headOf 4 0 0 (some .int)) (n : Nat) : ∀ (f : Nat) (x1 x2 x3 : Int) (hx1 : inR x1) (hx2 : inR x2) (hx3 : inR x3) (M : Mm), lp_R_headOf_2 n f x1 x2 x3 M = some (r, M9) → VJ LC w X 4 1 r M9 M [(0, .ref (wa w 1)), (1, .int (i32 x1)), (2, .int (i32 x2)), (3, .int (i32 x3))] [] 2 := by
  have G := G0.1
  intro f
  induction f with
  | zero => intro x1 x2 x3 hx1 hx2 hx3 M hF; cases hF
  | succ f ih =>
    intro x1 x2 x3 hx1 hx2 hx3 M hF
    replace hF : f_R_headOf_2 n (lp_R_headOf_2 n f) x1 x2 x3 M = some (r, M9) := hF
    unfold f_R_headOf_2 at hF
    have next : f_R_headOf_41 n (lp_R_headOf_2 n f) x1 x2 x3 M = some (r, M9) → VJ LC w X 4 1 r M9 M [(0, .ref (wa w 1)), (1, .int (i32 x1)), (2, .int (i32 x2)), (3, .int (i32 x3))] [] 41 := by
      intro hF
      unfold f_R_headOf_41 at hF
      refine vj_iinc G (p9 := 3) (n := 1) (lv2 := [(3, .int (i32 (w32 (x3 + 1)))), (0, .ref (wa w 1)), (1, .int (i32 x1)), (2, .int (i32 x2))]) d_R_headOf_41 rfl (by decide) rfl ?_
      refine vj_goto G (tgt := 2) d_R_headOf_44 (by decide) ?_
      refine vj_sub [1, 2, 3, 0] rfl ?_
      exact ih _ _ _ hx1 hx2 (ir_w _) _ hF
    refine vj_iload_n G (p9 := 3) d_R_headOf_2 rfl rfl ?_
    refine vj_iload_n G (p9 := 2) d_R_headOf_3 rfl rfl ?_
    refine vj_icmp_ge G (tgt := 47) d_R_headOf_4 (by decide) hx3 hx2 (fun c => ?_) (fun c => ?_)
    · rw [if_pos c] at hF
      refine vj_iload_n G (p9 := 2) d_R_headOf_47 rfl rfl ?_
      cases hF
      exact vj_iret G0 hx2 d_R_headOf_48
    · rw [if_neg c] at hF
      obtain ⟨c1, hF⟩ := ck_some hF
      refine vj_aload_n G (p9 := 0) d_R_headOf_7 rfl rfl ?_
      refine vj_getf G lkC_1 clC_7 inC_7 (j := 6) (by decide) q_170 rfl (fvs_get flC_7_6) d_R_headOf_8 ?_
      refine vj_iload_n G (p9 := 3) d_R_headOf_11 rfl rfl ?_
      refine vj_iald G (x := x3) lkC_17 (by decide) c1 d_R_headOf_12 ?_
      refine vj_mr (fun hM => ?_)
      refine vj_iconst G (v := 3) d_R_headOf_13 rfl ?_
      refine vj_icmp_ne G (tgt := 41) d_R_headOf_14 (by decide) (mr_a hM lkC_17) ⟨by decide, by decide⟩ (fun c2 => ?_) (fun c2 => ?_)
      · rw [if_pos c2] at hF
        exact next hF
      · rw [if_neg c2] at hF
        refine vj_aload_n G (p9 := 0) d_R_headOf_17 rfl rfl ?_
        refine vj_getf G lkC_1 clC_7 inC_7 (j := 5) (by decide) q_169 rfl (fvs_get flC_7_5) d_R_headOf_18 ?_
        refine vj_iload_n G (p9 := 3) d_R_headOf_21 rfl rfl ?_
        refine vj_wr (fun h16 _ _ => ?_)
        refine vj_aald7 G (k := 16) (x := x3) lkC_16 (by decide) c1 d_R_headOf_22 (fun c3 => ?_) (fun c3 => ?_)
        · rw [if_pos (by rw [show M 16 0 = wn w from h16]; exact c3)] at hF
          obtain ⟨c4, hF⟩ := ck_some hF
          refine vj_ifnull G d_R_headOf_23 ?_
          refine vj_aload_n G (p9 := 0) d_R_headOf_26 rfl rfl ?_
          refine vj_getf G lkC_1 clC_7 inC_7 (j := 5) (by decide) q_169 rfl (fvs_get flC_7_5) d_R_headOf_27 ?_
          refine vj_iload_n G (p9 := 3) d_R_headOf_30 rfl rfl ?_
          refine vj_aald7 G (k := 16) (x := x3) lkC_16 (by decide) c1 d_R_headOf_31 (fun _ => ?_) (fun c9 => absurd c3 c9)
          refine vj_hfam G c1 c3 c4 d_R_headOf_32 ?_
          refine vj_iload_n G (p9 := 1) d_R_headOf_35 rfl rfl ?_
          refine vj_icmp_ne G (tgt := 41) d_R_headOf_36 (by decide) (mr_v901 hM _) hx1 (fun c5 => ?_) (fun c5 => ?_)
          · rw [if_pos c5] at hF
            exact next hF
          · rw [if_neg c5] at hF
            refine vj_iload_n G (p9 := 3) d_R_headOf_39 rfl rfl ?_
            cases hF
            exact vj_iret G0 hx3 d_R_headOf_40
        · rw [if_neg (by rw [show M 16 0 = wn w from h16]; exact c3)] at hF
          refine vj_ifnullN G (tgt := 41) d_R_headOf_23 (by decide) ?_
          exact next hF
set_option maxHeartbeats 4000000 in
set_option maxRecDepth 100000 in
theorem ct_R_headOf {w : Wd} (hij : ij LC w) (n : Nat) (x1 x2 : Int) (hx1 : inR x1) (hx2 : inR x2) {M : Mm} {r : Int} {M9 : Mm} (hF : f_R_headOf n x1 x2 M = some (r, M9)) : Ct LC w y_R_headOf b_R_headOf 4 (some .int) 0 0 1 [.ref (wa w 1), .int (i32 x1), .int (i32 x2)] M r M9 := by
  refine Ct.of hij KstC (by decide +kernel) (Nat.le_of_ble_eq_true rfl) (fun X G0 => ?_)
  have G := G0.1
  show VJ LC w X 4 1 r M9 M [(0, .ref (wa w 1)), (1, .int (i32 x1)), (2, .int (i32 x2))] [] 0
  unfold f_R_headOf at hF
  refine vj_iconst G (v := 0) d_R_headOf_0 rfl ?_
  refine vj_istore_n G (lv2 := [(3, .int (i32 0)), (0, .ref (wa w 1)), (1, .int (i32 x1)), (2, .int (i32 x2))]) d_R_headOf_1 rfl (by decide) rfl ?_
  refine vj_sub [1, 2, 3, 0] rfl ?_
  exact wl_R_headOf_2 G0 n n x1 x2 0 hx1 hx2 ir_0 M hF
set_option maxHeartbeats 4000000 in
set_option maxRecDepth 100000 in
theorem ct_W_act {w : Wd} (hij : ij LC w) (n : Nat) (x1 x2 x3 : Int) (hx1 : inR x1) (hx2 : inR x2) (hx3 : inR x3) {M : Mm} {r : Int} {M9 : Mm} (hF : f_W_act n x1 x2 x3 M = some (r, M9)) : Ct LC w y_W_act b_W_act 5 (some .int) 7 148 1 [.ref (wa w 0), .int (i32 x1), .int (i32 x2), .int (i32 x3)] M r M9 := by
  refine Ct.of hij KstC (by decide +kernel) (Nat.le_of_ble_eq_true rfl) (fun X G0 => ?_)
  have G := G0.1
  show VJ LC w X 5 1 r M9 M [(0, .ref (wa w 0)), (1, .int (i32 x1)), (2, .int (i32 x2)), (3, .int (i32 x3))] [] 0
  unfold f_W_act at hF
  obtain ⟨r1, M1, e1, hF⟩ := bnd_some hF
  refine vj_aload_n G (p9 := 0) d_W_act_0 rfl rfl ?_
  refine vj_getf G lkC_0 clC_6 inC_6 (j := 0) (by decide) q_450 rfl (fvs_get flC_6_0) d_W_act_1 ?_
  refine vj_bipush G (v := 20) d_W_act_4 rfl ?_
  refine vj_iconst G (v := 0) d_W_act_6 rfl ?_
  refine vj_iast G (x := 20) lkC_10 (by decide) (by decide) (by decide) ⟨by decide, by decide⟩ ir_0 d_W_act_7 ?_
  refine vj_aload_n G (p9 := 0) d_W_act_8 rfl rfl ?_
  refine vj_getf G lkC_0 clC_6 inC_6 (j := 1) (by decide) q_451 rfl (fvs_get flC_6_1) d_W_act_9 ?_
  refine vj_iload_n G (p9 := 1) d_W_act_12 rfl rfl ?_
  refine vj_callV G (ct_R_holderAt (gx_ij G) n x1 hx1 e1) lkC_1 clC_7 rfl q_1160 cq_R_holderAt.1 cq_R_holderAt.2.1 cq_R_holderAt.2.2.1 cq_R_holderAt.2.2.2.1 cq_R_holderAt.2.2.2.2 rfl (by decide) (by decide) (Nat.le_of_ble_eq_true rfl) d_W_act_13 rfl (fun hr1 => ?_)
  show VJ LC w X 5 1 r M9 M1 [(0, .ref (wa w 0)), (1, .int (i32 x1)), (2, .int (i32 x2)), (3, .int (i32 x3))] [if r1 < 0 then .null else .ref (wa w r1.toNat)] 16
  rcases holderAt_inv e1 with g1 | ⟨g1, g2, g3, g4⟩
  · subst g1
    refine vj_astoreN G (lv2 := [(4, .null), (0, .ref (wa w 0)), (1, .int (i32 x1)), (2, .int (i32 x2)), (3, .int (i32 x3))]) d_W_act_16 (by decide) rfl ?_
    refine vj_aloadN G (p9 := 0) d_W_act_18 rfl ?_
    refine vj_ifnonnullN G d_W_act_20 ?_
    refine vj_iconst G (v := 0) d_W_act_23 rfl ?_
    rw [if_pos (by decide)] at hF
    cases hF
    exact vj_iret G0 ir_0 d_W_act_24
  · subst g1
    rw [if_neg (by omega)] at hF ⊢
    rw [nat_500 g2]
    rw [show (500 + x1 - 500 : Int) = x1 by omega] at hF
    refine vj_astore G (lv2 := [(4, .ref (wa w (500 + x1.toNat))), (0, .ref (wa w 0)), (1, .int (i32 x1)), (2, .int (i32 x2)), (3, .int (i32 x3))]) d_W_act_16 (by decide) rfl ?_
    refine vj_aload G (p9 := 0) d_W_act_18 rfl ?_
    refine vj_ifnonnull G (tgt := 25) d_W_act_20 (by decide) ?_
    refine vj_iload_n G (p9 := 3) d_W_act_25 rfl rfl ?_
    refine vj_wr (fun h16 h900 _ => ?_)
    replace h16 : M1 16 0 = wn w := h16
    by_cases c0 : x2 = 0
    · rw [if_pos c0] at hF
      refine vj_swIn G (y := 0) (tgt := 52) d_W_act_26 hx2 c0 (by decide) (by decide) rfl (by decide) ?_
      refine vj_aload G (p9 := 0) d_W_act_52 rfl ?_
      refine vj_iload_n G (p9 := 4) d_W_act_54 rfl rfl ?_
      unfold g_dV at hF
      by_cases k0 : M1 900 x1.toNat = 0
      · rw [if_pos k0] at hF
        have hh : hH w x1 0 := ⟨g2, g3, by rw [← h16]; exact g4, by rw [← h900]; exact k0⟩
        refine vj_callH G hh clC_0 (ct_H_doVotesc0 (gx_ij G) n x1 x3 hh hx3 hF) (cu_of G (x := ⟨"WhoRules$Holder", "doVotes", "(I)I"⟩) (y := ⟨"WhoRules$Holder", "doVotes", "(I)I"⟩) (owner := "WhoRules$Holder") (n := 1) q_1164 q_1167 q_1166 q_1165 q_117 q_1197 q_1165 q_1197 (by decide +kernel) (by decide) (by decide)) rfl (Nat.le_of_ble_eq_true rfl) d_W_act_55 rfl (fun hr => ?_)
        exact vj_iret G0 hr d_W_act_58
      · rw [if_neg k0] at hF
        by_cases k1 : M1 900 x1.toNat = 1
        · rw [if_pos k1] at hF
          have hh : hH w x1 1 := ⟨g2, g3, by rw [← h16]; exact g4, by rw [← h900]; exact k1⟩
          refine vj_callH G hh clC_1 (ct_Hf_doVotesc1 (gx_ij G) n x1 x3 hh hx3 hF) (cu_of G (x := ⟨"WhoRules$Holder", "doVotes", "(I)I"⟩) (y := ⟨"WhoRules$Firm", "doVotes", "(I)I"⟩) (owner := "WhoRules$Holder") (n := 1) q_1164 q_1167 q_1180 q_1181 q_118 q_1182 q_1165 q_1197 (by decide +kernel) (by decide) (by decide)) rfl (Nat.le_of_ble_eq_true rfl) d_W_act_55 rfl (fun hr => ?_)
          exact vj_iret G0 hr d_W_act_58
        · rw [if_neg k1] at hF
          by_cases k2 : M1 900 x1.toNat = 2
          · rw [if_pos k2] at hF
            have hh : hH w x1 2 := ⟨g2, g3, by rw [← h16]; exact g4, by rw [← h900]; exact k2⟩
            refine vj_callH G hh clC_2 (ct_H_doVotesc2 (gx_ij G) n x1 x3 hh hx3 hF) (cu_of G (x := ⟨"WhoRules$Holder", "doVotes", "(I)I"⟩) (y := ⟨"WhoRules$Holder", "doVotes", "(I)I"⟩) (owner := "WhoRules$Holder") (n := 1) q_1164 q_1167 q_1196 q_1165 q_117 q_1197 q_1165 q_1197 (by decide +kernel) (by decide) (by decide)) rfl (Nat.le_of_ble_eq_true rfl) d_W_act_55 rfl (fun hr => ?_)
            exact vj_iret G0 hr d_W_act_58
          · rw [if_neg k2] at hF
            by_cases k3 : M1 900 x1.toNat = 3
            · rw [if_pos k3] at hF
              have hh : hH w x1 3 := ⟨g2, g3, by rw [← h16]; exact g4, by rw [← h900]; exact k3⟩
              refine vj_callH G hh clC_3 (ct_Hk_doVotesc3 (gx_ij G) n x1 x3 hh hx3 hF) (cu_of G (x := ⟨"WhoRules$Holder", "doVotes", "(I)I"⟩) (y := ⟨"WhoRules$Kin", "doVotes", "(I)I"⟩) (owner := "WhoRules$Holder") (n := 1) q_1164 q_1167 q_1188 q_1189 q_120 q_1190 q_1165 q_1197 (by decide +kernel) (by decide) (by decide)) rfl (Nat.le_of_ble_eq_true rfl) d_W_act_55 rfl (fun hr => ?_)
              exact vj_iret G0 hr d_W_act_58
            · rw [if_neg k3] at hF
              by_cases k4 : M1 900 x1.toNat = 4
              · rw [if_pos k4] at hF
                have hh : hH w x1 4 := ⟨g2, g3, by rw [← h16]; exact g4, by rw [← h900]; exact k4⟩
                refine vj_callH G hh clC_4 (ct_H_doVotesc4 (gx_ij G) n x1 x3 hh hx3 hF) (cu_of G (x := ⟨"WhoRules$Holder", "doVotes", "(I)I"⟩) (y := ⟨"WhoRules$Holder", "doVotes", "(I)I"⟩) (owner := "WhoRules$Holder") (n := 1) q_1164 q_1167 q_1187 q_1165 q_117 q_1197 q_1165 q_1197 (by decide +kernel) (by decide) (by decide)) rfl (Nat.le_of_ble_eq_true rfl) d_W_act_55 rfl (fun hr => ?_)
                exact vj_iret G0 hr d_W_act_58
              · rw [if_neg k4] at hF
                by_cases k5 : M1 900 x1.toNat = 5
                · obtain ⟨-, hF⟩ := ck_some hF
                  have hh : hH w x1 5 := ⟨g2, g3, by rw [← h16]; exact g4, by rw [← h900]; exact k5⟩
                  refine vj_callH G hh clC_5 (ct_Hc_doVotesc5 (gx_ij G) n x1 x3 hh hx3 hF) (cu_of G (x := ⟨"WhoRules$Holder", "doVotes", "(I)I"⟩) (y := ⟨"WhoRules$Club", "doVotes", "(I)I"⟩) (owner := "WhoRules$Holder") (n := 1) q_1164 q_1167 q_1168 q_1169 q_122 q_1170 q_1165 q_1197 (by decide +kernel) (by decide) (by decide)) rfl (Nat.le_of_ble_eq_true rfl) d_W_act_55 rfl (fun hr => ?_)
                  exact vj_iret G0 hr d_W_act_58
                · exact absurd (ck_some hF).1 k5
    · rw [if_neg c0] at hF
      by_cases c1 : x2 = 1
      · rw [if_pos c1] at hF
        refine vj_swIn G (y := 1) (tgt := 59) d_W_act_26 hx2 c1 (by decide) (by decide) rfl (by decide) ?_
        refine vj_aload G (p9 := 0) d_W_act_59 rfl ?_
        refine vj_iload_n G (p9 := 4) d_W_act_61 rfl rfl ?_
        unfold g_dO at hF
        by_cases k0 : M1 900 x1.toNat = 0
        · rw [if_pos k0] at hF
          have hh : hH w x1 0 := ⟨g2, g3, by rw [← h16]; exact g4, by rw [← h900]; exact k0⟩
          refine vj_callH G hh clC_0 (ct_H_doOwnsc0 (gx_ij G) n x1 x3 hh hx3 hF) (cu_of G (x := ⟨"WhoRules$Holder", "doOwns", "(I)I"⟩) (y := ⟨"WhoRules$Holder", "doOwns", "(I)I"⟩) (owner := "WhoRules$Holder") (n := 1) q_1199 q_1202 q_1201 q_1200 q_117 q_1218 q_1200 q_1218 (by decide +kernel) (by decide) (by decide)) rfl (Nat.le_of_ble_eq_true rfl) d_W_act_62 rfl (fun hr => ?_)
          exact vj_iret G0 hr d_W_act_65
        · rw [if_neg k0] at hF
          by_cases k1 : M1 900 x1.toNat = 1
          · rw [if_pos k1] at hF
            have hh : hH w x1 1 := ⟨g2, g3, by rw [← h16]; exact g4, by rw [← h900]; exact k1⟩
            refine vj_callH G hh clC_1 (ct_H_doOwnsc1 (gx_ij G) n x1 x3 hh hx3 hF) (cu_of G (x := ⟨"WhoRules$Holder", "doOwns", "(I)I"⟩) (y := ⟨"WhoRules$Holder", "doOwns", "(I)I"⟩) (owner := "WhoRules$Holder") (n := 1) q_1199 q_1202 q_1204 q_1200 q_117 q_1218 q_1200 q_1218 (by decide +kernel) (by decide) (by decide)) rfl (Nat.le_of_ble_eq_true rfl) d_W_act_62 rfl (fun hr => ?_)
            exact vj_iret G0 hr d_W_act_65
          · rw [if_neg k1] at hF
            by_cases k2 : M1 900 x1.toNat = 2
            · rw [if_pos k2] at hF
              have hh : hH w x1 2 := ⟨g2, g3, by rw [← h16]; exact g4, by rw [← h900]; exact k2⟩
              refine vj_callH G hh clC_2 (ct_Hp_doOwnsc2 (gx_ij G) n x1 x3 hh hx3 hF) (cu_of G (x := ⟨"WhoRules$Holder", "doOwns", "(I)I"⟩) (y := ⟨"WhoRules$Person", "doOwns", "(I)I"⟩) (owner := "WhoRules$Holder") (n := 1) q_1199 q_1202 q_1217 q_1210 q_119 q_1211 q_1200 q_1218 (by decide +kernel) (by decide) (by decide)) rfl (Nat.le_of_ble_eq_true rfl) d_W_act_62 rfl (fun hr => ?_)
              exact vj_iret G0 hr d_W_act_65
            · rw [if_neg k2] at hF
              by_cases k3 : M1 900 x1.toNat = 3
              · rw [if_pos k3] at hF
                have hh : hH w x1 3 := ⟨g2, g3, by rw [← h16]; exact g4, by rw [← h900]; exact k3⟩
                refine vj_callH G hh clC_3 (ct_Hk_doOwnsc3 (gx_ij G) n x1 x3 hh hx3 hF) (cu_of G (x := ⟨"WhoRules$Holder", "doOwns", "(I)I"⟩) (y := ⟨"WhoRules$Kin", "doOwns", "(I)I"⟩) (owner := "WhoRules$Holder") (n := 1) q_1199 q_1202 q_1206 q_1207 q_120 q_1208 q_1200 q_1218 (by decide +kernel) (by decide) (by decide)) rfl (Nat.le_of_ble_eq_true rfl) d_W_act_62 rfl (fun hr => ?_)
                exact vj_iret G0 hr d_W_act_65
              · rw [if_neg k3] at hF
                by_cases k4 : M1 900 x1.toNat = 4
                · rw [if_pos k4] at hF
                  have hh : hH w x1 4 := ⟨g2, g3, by rw [← h16]; exact g4, by rw [← h900]; exact k4⟩
                  refine vj_callH G hh clC_4 (ct_H_doOwnsc4 (gx_ij G) n x1 x3 hh hx3 hF) (cu_of G (x := ⟨"WhoRules$Holder", "doOwns", "(I)I"⟩) (y := ⟨"WhoRules$Holder", "doOwns", "(I)I"⟩) (owner := "WhoRules$Holder") (n := 1) q_1199 q_1202 q_1205 q_1200 q_117 q_1218 q_1200 q_1218 (by decide +kernel) (by decide) (by decide)) rfl (Nat.le_of_ble_eq_true rfl) d_W_act_62 rfl (fun hr => ?_)
                  exact vj_iret G0 hr d_W_act_65
                · rw [if_neg k4] at hF
                  by_cases k5 : M1 900 x1.toNat = 5
                  · obtain ⟨-, hF⟩ := ck_some hF
                    have hh : hH w x1 5 := ⟨g2, g3, by rw [← h16]; exact g4, by rw [← h900]; exact k5⟩
                    refine vj_callH G hh clC_5 (ct_H_doOwnsc5 (gx_ij G) n x1 x3 hh hx3 hF) (cu_of G (x := ⟨"WhoRules$Holder", "doOwns", "(I)I"⟩) (y := ⟨"WhoRules$Holder", "doOwns", "(I)I"⟩) (owner := "WhoRules$Holder") (n := 1) q_1199 q_1202 q_1203 q_1200 q_117 q_1218 q_1200 q_1218 (by decide +kernel) (by decide) (by decide)) rfl (Nat.le_of_ble_eq_true rfl) d_W_act_62 rfl (fun hr => ?_)
                    exact vj_iret G0 hr d_W_act_65
                  · exact absurd (ck_some hF).1 k5
      · rw [if_neg c1] at hF
        by_cases c2 : x2 = 2
        · rw [if_pos c2] at hF
          refine vj_swIn G (y := 2) (tgt := 66) d_W_act_26 hx2 c2 (by decide) (by decide) rfl (by decide) ?_
          refine vj_aload G (p9 := 0) d_W_act_66 rfl ?_
          refine vj_iload_n G (p9 := 4) d_W_act_68 rfl rfl ?_
          unfold g_dR at hF
          by_cases k0 : M1 900 x1.toNat = 0
          · rw [if_pos k0] at hF
            have hh : hH w x1 0 := ⟨g2, g3, by rw [← h16]; exact g4, by rw [← h900]; exact k0⟩
            refine vj_callH G hh clC_0 (ct_H_doRulesc0 (gx_ij G) n x1 x3 hh hx3 hF) (cu_of G (x := ⟨"WhoRules$Holder", "doRules", "(I)I"⟩) (y := ⟨"WhoRules$Holder", "doRules", "(I)I"⟩) (owner := "WhoRules$Holder") (n := 1) q_1220 q_1223 q_1222 q_1221 q_117 q_1248 q_1221 q_1248 (by decide +kernel) (by decide) (by decide)) rfl (Nat.le_of_ble_eq_true rfl) d_W_act_69 rfl (fun hr => ?_)
            exact vj_iret G0 hr d_W_act_72
          · rw [if_neg k0] at hF
            by_cases k1 : M1 900 x1.toNat = 1
            · rw [if_pos k1] at hF
              have hh : hH w x1 1 := ⟨g2, g3, by rw [← h16]; exact g4, by rw [← h900]; exact k1⟩
              refine vj_callH G hh clC_1 (ct_Hf_doRulesc1 (gx_ij G) n x1 x3 hh hx3 hF) (cu_of G (x := ⟨"WhoRules$Holder", "doRules", "(I)I"⟩) (y := ⟨"WhoRules$Firm", "doRules", "(I)I"⟩) (owner := "WhoRules$Holder") (n := 1) q_1220 q_1223 q_1240 q_1241 q_118 q_1242 q_1221 q_1248 (by decide +kernel) (by decide) (by decide)) rfl (Nat.le_of_ble_eq_true rfl) d_W_act_69 rfl (fun hr => ?_)
              exact vj_iret G0 hr d_W_act_72
            · rw [if_neg k1] at hF
              by_cases k2 : M1 900 x1.toNat = 2
              · rw [if_pos k2] at hF
                have hh : hH w x1 2 := ⟨g2, g3, by rw [← h16]; exact g4, by rw [← h900]; exact k2⟩
                refine vj_callH G hh clC_2 (ct_H_doRulesc2 (gx_ij G) n x1 x3 hh hx3 hF) (cu_of G (x := ⟨"WhoRules$Holder", "doRules", "(I)I"⟩) (y := ⟨"WhoRules$Holder", "doRules", "(I)I"⟩) (owner := "WhoRules$Holder") (n := 1) q_1220 q_1223 q_1247 q_1221 q_117 q_1248 q_1221 q_1248 (by decide +kernel) (by decide) (by decide)) rfl (Nat.le_of_ble_eq_true rfl) d_W_act_69 rfl (fun hr => ?_)
                exact vj_iret G0 hr d_W_act_72
              · rw [if_neg k2] at hF
                by_cases k3 : M1 900 x1.toNat = 3
                · rw [if_pos k3] at hF
                  have hh : hH w x1 3 := ⟨g2, g3, by rw [← h16]; exact g4, by rw [← h900]; exact k3⟩
                  refine vj_callH G hh clC_3 (ct_H_doRulesc3 (gx_ij G) n x1 x3 hh hx3 hF) (cu_of G (x := ⟨"WhoRules$Holder", "doRules", "(I)I"⟩) (y := ⟨"WhoRules$Holder", "doRules", "(I)I"⟩) (owner := "WhoRules$Holder") (n := 1) q_1220 q_1223 q_1246 q_1221 q_117 q_1248 q_1221 q_1248 (by decide +kernel) (by decide) (by decide)) rfl (Nat.le_of_ble_eq_true rfl) d_W_act_69 rfl (fun hr => ?_)
                  exact vj_iret G0 hr d_W_act_72
                · rw [if_neg k3] at hF
                  by_cases k4 : M1 900 x1.toNat = 4
                  · rw [if_pos k4] at hF
                    have hh : hH w x1 4 := ⟨g2, g3, by rw [← h16]; exact g4, by rw [← h900]; exact k4⟩
                    refine vj_callH G hh clC_4 (ct_Hu_doRulesc4 (gx_ij G) n x1 x3 hh hx3 hF) (cu_of G (x := ⟨"WhoRules$Holder", "doRules", "(I)I"⟩) (y := ⟨"WhoRules$Fund", "doRules", "(I)I"⟩) (owner := "WhoRules$Holder") (n := 1) q_1220 q_1223 q_1245 q_1228 q_121 q_1229 q_1221 q_1248 (by decide +kernel) (by decide) (by decide)) rfl (Nat.le_of_ble_eq_true rfl) d_W_act_69 rfl (fun hr => ?_)
                    exact vj_iret G0 hr d_W_act_72
                  · rw [if_neg k4] at hF
                    by_cases k5 : M1 900 x1.toNat = 5
                    · obtain ⟨-, hF⟩ := ck_some hF
                      have hh : hH w x1 5 := ⟨g2, g3, by rw [← h16]; exact g4, by rw [← h900]; exact k5⟩
                      refine vj_callH G hh clC_5 (ct_Hc_doRulesc5 (gx_ij G) n x1 x3 hh hx3 hF) (cu_of G (x := ⟨"WhoRules$Holder", "doRules", "(I)I"⟩) (y := ⟨"WhoRules$Club", "doRules", "(I)I"⟩) (owner := "WhoRules$Holder") (n := 1) q_1220 q_1223 q_1224 q_1225 q_122 q_1226 q_1221 q_1248 (by decide +kernel) (by decide) (by decide)) rfl (Nat.le_of_ble_eq_true rfl) d_W_act_69 rfl (fun hr => ?_)
                      exact vj_iret G0 hr d_W_act_72
                    · exact absurd (ck_some hF).1 k5
        · rw [if_neg c2] at hF
          refine vj_swOut G (tgt := 73) d_W_act_26 hx2 (by omega) (by decide) ?_
          refine vj_iconst G (v := 0) d_W_act_73 rfl ?_
          cases hF
          exact vj_iret G0 ir_0 d_W_act_74
set_option maxHeartbeats 4000000 in
set_option maxRecDepth 100000 in
theorem ct_W_taken {w : Wd} (hij : ij LC w) (n : Nat) (x1 x2 : Int) (hx1 : inR x1) (hx2 : inR x2) {M : Mm} {r : Int} {M9 : Mm} (hF : f_W_taken n x1 x2 M = some (r, M9)) : Ct LC w y_W_taken b_W_taken 4 (some .int) 7 148 1 [.ref (wa w 0), .int (i32 x1), .int (i32 x2)] M r M9 := by
  refine Ct.of hij KstC (by decide +kernel) (Nat.le_of_ble_eq_true rfl) (fun X G0 => ?_)
  have G := G0.1
  show VJ LC w X 4 1 r M9 M [(0, .ref (wa w 0)), (1, .int (i32 x1)), (2, .int (i32 x2))] [] 0
  unfold f_W_taken at hF
  have bad : (x2 < 0 ∨ 5 < x2) → VJ LC w X 4 1 r M9 M [(0, .ref (wa w 0)), (1, .int (i32 x1)), (2, .int (i32 x2))] [] 9 := by
    intro c
    rw [if_pos c] at hF
    refine vj_bipush G (v := (-2)) d_W_taken_9 rfl ?_
    cases hF
    exact vj_iret G0 ⟨by decide, by decide⟩ d_W_taken_11
  refine vj_iload_n G (p9 := 2) d_W_taken_0 rfl rfl ?_
  refine vj_if_lt G (tgt := 9) d_W_taken_1 (by decide) hx2 (fun c => bad (Or.inl c)) (fun c => ?_)
  refine vj_iload_n G (p9 := 2) d_W_taken_4 rfl rfl ?_
  refine vj_iconst G (v := 5) d_W_taken_5 rfl ?_
  refine vj_icmp_le G (tgt := 12) d_W_taken_6 (by decide) hx2 ⟨by decide, by decide⟩ (fun c2 => ?_) (fun c2 => bad (Or.inr (by omega)))
  rw [if_neg (by omega)] at hF
  obtain ⟨r1, M1, e1, hF⟩ := bnd_some hF
  refine vj_aload_n G (p9 := 0) d_W_taken_12 rfl rfl ?_
  refine vj_getf G lkC_0 clC_6 inC_6 (j := 1) (by decide) q_451 rfl (fvs_get flC_6_1) d_W_taken_13 ?_
  refine vj_iload_n G (p9 := 1) d_W_taken_16 rfl rfl ?_
  refine vj_callV G (ct_R_holderAt (gx_ij G) n x1 hx1 e1) lkC_1 clC_7 rfl q_1160 cq_R_holderAt.1 cq_R_holderAt.2.1 cq_R_holderAt.2.2.1 cq_R_holderAt.2.2.2.1 cq_R_holderAt.2.2.2.2 rfl (by decide) (by decide) (Nat.le_of_ble_eq_true rfl) d_W_taken_17 rfl (fun hr1 => ?_)
  show VJ LC w X 4 1 r M9 M1 [(0, .ref (wa w 0)), (1, .int (i32 x1)), (2, .int (i32 x2))] [if r1 < 0 then .null else .ref (wa w r1.toNat)] 20
  rcases holderAt_inv e1 with g1 | ⟨g1, g2, g3, g4⟩
  · subst g1
    refine vj_astore_nN G (lv2 := [(3, .null), (0, .ref (wa w 0)), (1, .int (i32 x1)), (2, .int (i32 x2))]) d_W_taken_20 rfl (by decide) rfl ?_
    refine vj_aload_nN G (p9 := 0) d_W_taken_21 rfl rfl ?_
    refine vj_ifnonnullN G d_W_taken_22 ?_
    refine vj_bipush G (v := (-11)) d_W_taken_25 rfl ?_
    rw [if_pos (by decide)] at hF
    cases hF
    exact vj_iret G0 ⟨by decide, by decide⟩ d_W_taken_27
  · subst g1
    rw [if_neg (by omega)] at hF ⊢
    rw [nat_500 g2]
    rw [show (500 + x1 - 500 : Int) = x1 by omega] at hF
    refine vj_astore_n G (lv2 := [(3, .ref (wa w (500 + x1.toNat))), (0, .ref (wa w 0)), (1, .int (i32 x1)), (2, .int (i32 x2))]) d_W_taken_20 rfl (by decide) rfl ?_
    refine vj_aload_n G (p9 := 0) d_W_taken_21 rfl rfl ?_
    refine vj_ifnonnull G (tgt := 28) d_W_taken_22 (by decide) ?_
    refine vj_aload_n G (p9 := 0) d_W_taken_28 rfl rfl ?_
    refine vj_iload_n G (p9 := 3) d_W_taken_29 rfl rfl ?_
    refine vj_wr (fun h16 h900 _ => ?_)
    replace h16 : M1 16 0 = wn w := h16
    obtain ⟨q, M2, hF1, hF2⟩ := bnd_some hF
    clear hF
    have tail : inB q → VJ LC w X 4 1 r M9 M2 [(3, .ref (wa w (500 + x1.toNat))), (0, .ref (wa w 0)), (1, .int (i32 x1)), (2, .int (i32 x2))] [.int (i32 q)] 33 := by
      intro hq
      refine vj_if_eq G (tgt := 48) d_W_taken_33 (by decide) (ir_b hq) (fun c => ?_) (fun c => ?_)
      · rw [if_pos c] at hF2
        refine vj_bipush G (v := (-12)) d_W_taken_48 rfl ?_
        cases hF2
        exact vj_iret G0 ⟨by decide, by decide⟩ d_W_taken_50
      · rw [if_neg c] at hF2
        obtain ⟨c1, hF2⟩ := ck_some hF2
        refine vj_aload_n G (p9 := 1) d_W_taken_36 rfl rfl ?_
        refine vj_getf G lkC_0 clC_6 inC_6 (j := 1) (by decide) q_451 rfl (fvs_get flC_6_1) d_W_taken_37 ?_
        refine vj_getf G lkC_1 clC_7 inC_7 (j := 6) (by decide) q_172 rfl (fvs_get flC_7_6) d_W_taken_40 ?_
        refine vj_iload_n G (p9 := 2) d_W_taken_43 rfl rfl ?_
        refine vj_iald G (x := x1) lkC_17 (by decide) c1 d_W_taken_44 ?_
        refine vj_goto G (tgt := 50) d_W_taken_45 (by decide) ?_
        refine vj_mr (fun hM => ?_)
        cases hF2
        exact vj_iret G0 (mr_a hM lkC_17) d_W_taken_50
    have hF := hF1
    unfold g_dU at hF
    by_cases k0 : M1 900 x1.toNat = 0
    · rw [if_pos k0] at hF
      have hh : hH w x1 0 := ⟨g2, g3, by rw [← h16]; exact g4, by rw [← h900]; exact k0⟩
      refine vj_callH G hh clC_0 (ct_H_isUnderc0 (gx_ij G) n x1 x2 hh hx2 hF) (cu_of G (x := ⟨"WhoRules$Holder", "isUnder", "(I)Z"⟩) (y := ⟨"WhoRules$Holder", "isUnder", "(I)Z"⟩) (owner := "WhoRules$Holder") (n := 1) q_1258 q_1261 q_1260 q_1259 q_117 q_1267 q_1259 q_1267 (by decide +kernel) (by decide) (by decide)) rfl (Nat.le_of_ble_eq_true rfl) d_W_taken_30 rfl (fun hr => ?_)
      exact tail hr
    · rw [if_neg k0] at hF
      by_cases k1 : M1 900 x1.toNat = 1
      · rw [if_pos k1] at hF
        have hh : hH w x1 1 := ⟨g2, g3, by rw [← h16]; exact g4, by rw [← h900]; exact k1⟩
        refine vj_callH G hh clC_1 (ct_H_isUnderc1 (gx_ij G) n x1 x2 hh hx2 hF) (cu_of G (x := ⟨"WhoRules$Holder", "isUnder", "(I)Z"⟩) (y := ⟨"WhoRules$Holder", "isUnder", "(I)Z"⟩) (owner := "WhoRules$Holder") (n := 1) q_1258 q_1261 q_1263 q_1259 q_117 q_1267 q_1259 q_1267 (by decide +kernel) (by decide) (by decide)) rfl (Nat.le_of_ble_eq_true rfl) d_W_taken_30 rfl (fun hr => ?_)
        exact tail hr
      · rw [if_neg k1] at hF
        by_cases k2 : M1 900 x1.toNat = 2
        · rw [if_pos k2] at hF
          have hh : hH w x1 2 := ⟨g2, g3, by rw [← h16]; exact g4, by rw [← h900]; exact k2⟩
          refine vj_callH G hh clC_2 (ct_H_isUnderc2 (gx_ij G) n x1 x2 hh hx2 hF) (cu_of G (x := ⟨"WhoRules$Holder", "isUnder", "(I)Z"⟩) (y := ⟨"WhoRules$Holder", "isUnder", "(I)Z"⟩) (owner := "WhoRules$Holder") (n := 1) q_1258 q_1261 q_1266 q_1259 q_117 q_1267 q_1259 q_1267 (by decide +kernel) (by decide) (by decide)) rfl (Nat.le_of_ble_eq_true rfl) d_W_taken_30 rfl (fun hr => ?_)
          exact tail hr
        · rw [if_neg k2] at hF
          by_cases k3 : M1 900 x1.toNat = 3
          · rw [if_pos k3] at hF
            have hh : hH w x1 3 := ⟨g2, g3, by rw [← h16]; exact g4, by rw [← h900]; exact k3⟩
            refine vj_callH G hh clC_3 (ct_H_isUnderc3 (gx_ij G) n x1 x2 hh hx2 hF) (cu_of G (x := ⟨"WhoRules$Holder", "isUnder", "(I)Z"⟩) (y := ⟨"WhoRules$Holder", "isUnder", "(I)Z"⟩) (owner := "WhoRules$Holder") (n := 1) q_1258 q_1261 q_1265 q_1259 q_117 q_1267 q_1259 q_1267 (by decide +kernel) (by decide) (by decide)) rfl (Nat.le_of_ble_eq_true rfl) d_W_taken_30 rfl (fun hr => ?_)
            exact tail hr
          · rw [if_neg k3] at hF
            by_cases k4 : M1 900 x1.toNat = 4
            · rw [if_pos k4] at hF
              have hh : hH w x1 4 := ⟨g2, g3, by rw [← h16]; exact g4, by rw [← h900]; exact k4⟩
              refine vj_callH G hh clC_4 (ct_H_isUnderc4 (gx_ij G) n x1 x2 hh hx2 hF) (cu_of G (x := ⟨"WhoRules$Holder", "isUnder", "(I)Z"⟩) (y := ⟨"WhoRules$Holder", "isUnder", "(I)Z"⟩) (owner := "WhoRules$Holder") (n := 1) q_1258 q_1261 q_1264 q_1259 q_117 q_1267 q_1259 q_1267 (by decide +kernel) (by decide) (by decide)) rfl (Nat.le_of_ble_eq_true rfl) d_W_taken_30 rfl (fun hr => ?_)
              exact tail hr
            · rw [if_neg k4] at hF
              by_cases k5 : M1 900 x1.toNat = 5
              · obtain ⟨-, hF⟩ := ck_some hF
                have hh : hH w x1 5 := ⟨g2, g3, by rw [← h16]; exact g4, by rw [← h900]; exact k5⟩
                refine vj_callH G hh clC_5 (ct_H_isUnderc5 (gx_ij G) n x1 x2 hh hx2 hF) (cu_of G (x := ⟨"WhoRules$Holder", "isUnder", "(I)Z"⟩) (y := ⟨"WhoRules$Holder", "isUnder", "(I)Z"⟩) (owner := "WhoRules$Holder") (n := 1) q_1258 q_1261 q_1262 q_1259 q_117 q_1267 q_1259 q_1267 (by decide +kernel) (by decide) (by decide)) rfl (Nat.le_of_ble_eq_true rfl) d_W_taken_30 rfl (fun hr => ?_)
                exact tail hr
              · exact absurd (ck_some hF).1 k5
