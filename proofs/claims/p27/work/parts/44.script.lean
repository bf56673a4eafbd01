/-! the law's numbers from its script -/
def cV (xs : Nat → Int32) (L k : Nat) : Int32 := if L = 0 then nI (k * 37 + 5) else (xs (k % L) >>> (nI (k % 7) &&& 31)) &&& 4194303
def cL (xs : Nat → Int32) (L k n : Nat) : Nat := (cV xs L k).toNatClampNeg % n
theorem cV_nI {xs : Nat → Int32} {L k : Nat} (hk : k ≤ 1000) : ∃ a : Nat, a < 4194304 ∧ cV xs L k = nI a := by
  unfold cV
  by_cases h : L = 0
  · rw [if_pos h]
    exact ⟨k * 37 + 5, by omega, rfl⟩
  · rw [if_neg h]
    have hz : ∀ j, 22 ≤ j → j < 32 → bt ((xs (k % L) >>> (nI (k % 7) &&& 31)) &&& 4194303) j = false := fun j h1 h2 => by
      rw [b_and, show (4194303 : Int32) = nI 4194303 from rfl, bt_nI _ h2, Nat.testBit_lt_two_pow (Nat.lt_of_lt_of_le (show 4194303 < 2 ^ 22 by decide) (Nat.pow_le_pow_right (by decide) h1)), Bool.and_false]
    generalize (xs (k % L) >>> (nI (k % 7) &&& 31)) &&& 4194303 = x at hz
    have e : x = nI x.toBitVec.toNat := by
      apply Int32.toBitVec_inj.mp
      show x.toBitVec = BitVec.ofNat 32 x.toBitVec.toNat
      rw [BitVec.ofNat_toNat, BitVec.setWidth_eq]
    refine ⟨x.toBitVec.toNat, ?_, e⟩
    refine (Nat.lt_pow_two_of_testBit (n := 22) _ (fun i hi => ?_) : _ < 2 ^ 22)
    by_cases h32 : i < 32
    · have := hz i hi h32
      rw [e, bt_nI _ h32] at this
      exact this
    · exact Nat.testBit_lt_two_pow (Nat.lt_of_lt_of_le x.toBitVec.isLt (Nat.pow_le_pow_right (by decide) (by omega)))
theorem cL_lt {xs : Nat → Int32} {L k n : Nat} (hn : 0 < n) : cL xs L k n < n := Nat.mod_lt _ hn
theorem cL_rem {xs : Nat → Int32} {L k n : Nat} (hk : k ≤ 1000) (hn : 0 < n) (hn2 : n < 2147483648) {x : Int32} (hx : x = cV xs L k) : x - x / nI n * nI n = nI (cL xs L k n) := by
  obtain ⟨a, ha, he⟩ := cV_nI (xs := xs) (L := L) hk
  unfold cL
  rw [hx, he, rem_nI (by omega) hn2 hn, nI_clamp (by omega)]
theorem nI_n0 {n : Nat} (hn : 0 < n) (hn2 : n < 2147483648) : ¬ nI n = 0 := fun h9 => by
  have := (nI_eq (a := n) (b := 0) hn2 (by decide)).mp h9
  omega
def tH (xs : Nat → Int32) (L k : Nat) : Int32 := if cL xs L k 3 = 0 then nI (1 + cL xs L (k + 1) 262143) else ((nI (1 + cL xs L (k + 1) 255)) &&& (nI (256 + cL xs L (k + 2) 256))) ||| bI (cL xs L k 9)
theorem things_nI {a : Nat} (h1 : 1 ≤ a) (h2 : a ≤ 262143) : S_things (nI a) = true := decide_eq_true ⟨fun h => absurd ((nI_ltI (a := a) (b := 1) (by omega) (by decide)).mp h) (by omega), fun h => absurd ((nI_ltI (a := 262143) (b := a) (by decide) (by omega)).mp h) (by omega)⟩
theorem tH_ok (xs : Nat → Int32) (L k : Nat) : S_things (tH xs L k) = true := by
  unfold tH
  have h1 := cL_lt (xs := xs) (L := L) (k := k + 1) (n := 262143) (by decide)
  have h2 := cL_lt (xs := xs) (L := L) (k := k + 1) (n := 255) (by decide)
  have h3 := cL_lt (xs := xs) (L := L) (k := k + 2) (n := 256) (by decide)
  have h4 := cL_lt (xs := xs) (L := L) (k := k) (n := 9) (by decide)
  split
  · exact things_nI (by omega) (by omega)
  · rw [and_nI, bI_pow _ (by omega)]
    have e : nI (Nat.land (1 + cL xs L (k + 1) 255) (256 + cL xs L (k + 2) 256)) ||| nI (2 ^ cL xs L k 9) = nI ((Nat.land (1 + cL xs L (k + 1) 255) (256 + cL xs L (k + 2) 256)) ||| 2 ^ cL xs L k 9) := by
      apply b_ext
      intro i hi
      rw [b_or, bt_nI _ hi, bt_nI _ hi, bt_nI _ hi, Nat.testBit_or]
    rw [e]
    have hp : 2 ^ cL xs L k 9 < 2 ^ 18 := Nat.pow_lt_pow_right (by decide) (by omega)
    have hl : Nat.land (1 + cL xs L (k + 1) 255) (256 + cL xs L (k + 2) 256) < 2 ^ 18 := Nat.lt_of_le_of_lt (land_l _ _) (by omega)
    have ho := Nat.or_lt_two_pow hl hp
    have hge : 2 ^ cL xs L k 9 ≤ (Nat.land (1 + cL xs L (k + 1) 255) (256 + cL xs L (k + 2) 256)) ||| 2 ^ cL xs L k 9 := Nat.right_le_or
    have hpos := Nat.two_pow_pos (cL xs L k 9)
    exact things_nI (by omega) (by omega)
theorem price_nI {a : Nat} (h1 : 1 ≤ a) (h2 : a ≤ 500) : S_price (nI a) = true := decide_eq_true ⟨fun h => absurd ((nI_ltI (a := a) (b := 1) (by omega) (by decide)).mp h) (by omega), fun h => absurd ((nI_ltI (a := 500) (b := a) (by decide) (by omega)).mp h) (by omega)⟩

set_option maxHeartbeats 4000000 in
set_option maxRecDepth 100000 in
theorem c_L_cell (g : jG) (bS : Nat) (L : Nat) (xs : Nat → Int32) (k : Nat) (n : Nat) (hL : L ≤ 260) (hk : k ≤ 1000) (hn : 0 < n) (hn2 : n < 2147483648) : jMS g yL_cell method_2_code 3 .int 0 0 [.ref bS, .int (nI k), .int (nI n)] [] bS L xs (fun rz wz => cL xs L k n < n ∧ rz = nI (cL xs L k n) ∧ wz = []) := by
  refine jMS.intro (by decide +kernel) (Nat.le_of_ble_eq_true rfl) (fun x hX hQ hSc => ?_)
  refine j_lv (lv2 := [(0, .ref bS), (1, .int (nI k)), (2, .int (nI n))]) rfl ?_
  refine j_aload_n (pc := 0) hX dL_cell_0 0 rfl ?_
  refine j_slen hX hSc dL_cell_1 ?_
  refine j_if_ne (tgt := 14) (pc := 2) hX dL_cell_2 (by decide) (fun c2_1 => ?_) (fun c2_1 => ?_)
  · skip
    have c2_1n : ¬ L = 0 := fun h9 => c2_1 ((nI_eq (a := L) (b := 0) (by omega) (by omega)).mpr h9)
    refine j_aload_n (pc := 14) hX dL_cell_14 0 rfl ?_
    refine j_iload_n (pc := 15) hX dL_cell_15 1 rfl ?_
    refine j_aload_n (pc := 16) hX dL_cell_16 0 rfl ?_
    refine j_slen hX hSc dL_cell_17 ?_
    refine j_irem (pc := 18) hX dL_cell_18 (nI_n0 (by omega) (by omega)) ?_
    refine j_top (b := nI (k % L)) (rem_nI (by omega) (by omega) (by omega)) ?_
    refine j_sld (pc := 19) hX hSc (k % L) rfl (Nat.mod_lt _ (by omega)) (by omega) dL_cell_19 ?_
    refine j_iload_n (pc := 20) hX dL_cell_20 1 rfl ?_
    refine j_bipush (v := 7) (pc := 21) hX dL_cell_21 (by decide) ?_
    refine j_irem (pc := 23) hX dL_cell_23 (by decide) ?_
    refine j_top (b := nI (k % 7)) (rem_nI (b := 7) (by omega) (by decide) (by decide)) ?_
    refine j_ishr (pc := 24) hX dL_cell_24 ?_
    refine j_ldc (v := 4194303) (pc := 25) hX mw243 dL_cell_25 ?_
    refine j_iand (pc := 27) hX dL_cell_27 ?_
    refine j_iload_n (pc := 28) hX dL_cell_28 2 rfl ?_
    refine j_irem (pc := 29) hX dL_cell_29 (nI_n0 hn hn2) ?_
    refine j_top (b := nI (cL xs L k n)) (cL_rem hk hn hn2 (by unfold cV; rw [if_neg c2_1n])) ?_
    exact j_iret (pc := 30) hX hQ dL_cell_30 rfl ⟨(cL_lt hn), (by first | rfl | first | (simp only [jb_t, jb_f, c2_1, c2_1n, reduceIte, eq_self, decide_true, decide_false, Bool.and_true, Bool.true_and, Bool.and_false, Bool.false_and, Bool.and_self, not_true_eq_false, not_false_eq_true, and_true, true_and, and_false, false_and, and_self]; done) | (simp [jb_t, jb_f, c2_1, c2_1n]; done)), (by first | rfl | first | (simp only [jb_t, jb_f, c2_1, c2_1n, reduceIte, eq_self, decide_true, decide_false, Bool.and_true, Bool.true_and, Bool.and_false, Bool.false_and, Bool.and_self, not_true_eq_false, not_false_eq_true, and_true, true_and, and_false, false_and, and_self]; done) | (simp [jb_t, jb_f, c2_1, c2_1n]; done))⟩
  · skip
    have c2_1n : L = 0 := (nI_eq (a := L) (b := 0) (by omega) (by omega)).mp c2_1
    have hZero : True := trivial
    refine j_iload_n (pc := 5) hX dL_cell_5 1 rfl ?_
    refine j_bipush (v := 37) (pc := 6) hX dL_cell_6 (by decide) ?_
    refine j_imul (pc := 8) hX dL_cell_8 ?_
    refine j_top (b := nI (k * 37)) (pk_mul k 37) ?_
    refine j_iconst (v := 5) (pc := 9) hX dL_cell_9 (by decide) ?_
    refine j_iadd (pc := 10) hX dL_cell_10 ?_
    refine j_top (b := nI ((k * 37) + 5)) (nI_add (k * 37) 5) ?_
    refine j_goto (tgt := 28) (pc := 11) hX dL_cell_11 (by decide) ?_
    refine j_iload_n (pc := 28) hX dL_cell_28 2 rfl ?_
    refine j_irem (pc := 29) hX dL_cell_29 (nI_n0 hn hn2) ?_
    refine j_top (b := nI (cL xs L k n)) (cL_rem hk hn hn2 (by unfold cV; rw [if_pos c2_1n])) ?_
    exact j_iret (pc := 30) hX hQ dL_cell_30 rfl ⟨(cL_lt hn), (by first | rfl | first | (simp only [jb_t, jb_f, c2_1, c2_1n, hZero, reduceIte, eq_self, decide_true, decide_false, Bool.and_true, Bool.true_and, Bool.and_false, Bool.false_and, Bool.and_self, not_true_eq_false, not_false_eq_true, and_true, true_and, and_false, false_and, and_self]; done) | (simp [jb_t, jb_f, c2_1, c2_1n, hZero]; done)), (by first | rfl | first | (simp only [jb_t, jb_f, c2_1, c2_1n, hZero, reduceIte, eq_self, decide_true, decide_false, Bool.and_true, Bool.true_and, Bool.and_false, Bool.false_and, Bool.and_self, not_true_eq_false, not_false_eq_true, and_true, true_and, and_false, false_and, and_self]; done) | (simp [jb_t, jb_f, c2_1, c2_1n, hZero]; done))⟩

set_option maxHeartbeats 4000000 in
set_option maxRecDepth 100000 in
theorem c_L_things (g : jG) (bS : Nat) (L : Nat) (xs : Nat → Int32) (k : Nat) (hL : L ≤ 260) (hk : k ≤ 900) : jMS g yL_things method_11_code 2 .int 1 22 [.ref bS, .int (nI k)] [] bS L xs (fun rz wz => rz = tH xs L k ∧ wz = []) := by
  refine jMS.intro (by decide +kernel) (Nat.le_of_ble_eq_true rfl) (fun x hX hQ hSc => ?_)
  refine j_lv (lv2 := [(0, .ref bS), (1, .int (nI k))]) rfl ?_
  refine j_aload_n (pc := 0) hX dL_things_0 0 rfl ?_
  refine j_iload_n (pc := 1) hX dL_things_1 1 rfl ?_
  refine j_iconst (v := 3) (pc := 2) hX dL_things_2 (by decide) ?_
  refine j_callSS (n := 3) (As := [.ref bS, .int (nI k), .int 3]) (rest := []) (pc := 3) hX hSc (c_L_cell g bS L xs k 3 (by first | assumption | omega) (by first | assumption | omega) (by first | assumption | omega) (by first | assumption | omega)) (CS.of mw240 mw241 mw12 mw242 ⟨by decide +kernel, by decide +kernel, by decide +kernel⟩) (Nat.le_of_ble_eq_true rfl) (Nat.le_of_ble_eq_true rfl) (Nat.le_of_ble_eq_true rfl) (Nat.le_of_ble_eq_true rfl) [] (by decide +kernel) rfl rfl rfl (Nat.le_of_ble_eq_true rfl) dL_things_3 (fun r1 wz hq2 => ?_)
  obtain ⟨hcl_3, rfl, rfl⟩ := hq2
  refine j_ws (ws2 := []) rfl ?_
  refine j_if_ne (tgt := 23) (pc := 6) hX dL_things_6 (by decide) (fun c6_4 => ?_) (fun c6_4 => ?_)
  · skip
    have c6_4n : ¬ (cL xs L k 3) = 0 := fun h9 => c6_4 ((nI_eq (a := (cL xs L k 3)) (b := 0) (by omega) (by omega)).mpr h9)
    refine j_iconst (v := 1) (pc := 23) hX dL_things_23 (by decide) ?_
    refine j_aload_n (pc := 24) hX dL_things_24 0 rfl ?_
    refine j_iload_n (pc := 25) hX dL_things_25 1 rfl ?_
    refine j_iconst (v := 1) (pc := 26) hX dL_things_26 (by decide) ?_
    refine j_iadd (pc := 27) hX dL_things_27 ?_
    refine j_top (b := nI (k + 1)) (nI_add k 1) ?_
    refine j_sipush (v := 255) (pc := 28) hX dL_things_28 (by decide) ?_
    refine j_callSS (n := 3) (As := [.ref bS, .int (nI (k + 1)), .int 255]) (rest := [.int 1]) (pc := 31) hX hSc (c_L_cell g bS L xs (k + 1) 255 (by first | assumption | omega) (by first | assumption | omega) (by first | assumption | omega) (by first | assumption | omega)) (CS.of mw240 mw241 mw12 mw242 ⟨by decide +kernel, by decide +kernel, by decide +kernel⟩) (Nat.le_of_ble_eq_true rfl) (Nat.le_of_ble_eq_true rfl) (Nat.le_of_ble_eq_true rfl) (Nat.le_of_ble_eq_true rfl) [] (by decide +kernel) rfl rfl rfl (Nat.le_of_ble_eq_true rfl) dL_things_31 (fun r5 wz hq6 => ?_)
    obtain ⟨hcl_7, rfl, rfl⟩ := hq6
    refine j_ws (ws2 := []) rfl ?_
    refine j_iadd (pc := 34) hX dL_things_34 ?_
    refine j_top (b := nI (1 + (cL xs L (k + 1) 255))) (nI_add 1 (cL xs L (k + 1) 255)) ?_
    refine j_sipush (v := 256) (pc := 35) hX dL_things_35 (by decide) ?_
    refine j_aload_n (pc := 38) hX dL_things_38 0 rfl ?_
    refine j_iload_n (pc := 39) hX dL_things_39 1 rfl ?_
    refine j_iconst (v := 2) (pc := 40) hX dL_things_40 (by decide) ?_
    refine j_iadd (pc := 41) hX dL_things_41 ?_
    refine j_top (b := nI (k + 2)) (nI_add k 2) ?_
    refine j_sipush (v := 256) (pc := 42) hX dL_things_42 (by decide) ?_
    refine j_callSS (n := 3) (As := [.ref bS, .int (nI (k + 2)), .int 256]) (rest := [.int 256, .int (nI (1 + (cL xs L (k + 1) 255)))]) (pc := 45) hX hSc (c_L_cell g bS L xs (k + 2) 256 (by first | assumption | omega) (by first | assumption | omega) (by first | assumption | omega) (by first | assumption | omega)) (CS.of mw240 mw241 mw12 mw242 ⟨by decide +kernel, by decide +kernel, by decide +kernel⟩) (Nat.le_of_ble_eq_true rfl) (Nat.le_of_ble_eq_true rfl) (Nat.le_of_ble_eq_true rfl) (Nat.le_of_ble_eq_true rfl) [] (by decide +kernel) rfl rfl rfl (Nat.le_of_ble_eq_true rfl) dL_things_45 (fun r8 wz hq9 => ?_)
    obtain ⟨hcl_10, rfl, rfl⟩ := hq9
    refine j_ws (ws2 := []) rfl ?_
    refine j_iadd (pc := 48) hX dL_things_48 ?_
    refine j_top (b := nI (256 + (cL xs L (k + 2) 256))) (nI_add 256 (cL xs L (k + 2) 256)) ?_
    refine j_iand (pc := 49) hX dL_things_49 ?_
    refine j_iconst (v := 1) (pc := 50) hX dL_things_50 (by decide) ?_
    refine j_aload_n (pc := 51) hX dL_things_51 0 rfl ?_
    refine j_iload_n (pc := 52) hX dL_things_52 1 rfl ?_
    refine j_bipush (v := 9) (pc := 53) hX dL_things_53 (by decide) ?_
    refine j_callSS (n := 3) (As := [.ref bS, .int (nI k), .int 9]) (rest := [.int 1, .int ((nI (1 + (cL xs L (k + 1) 255))) &&& (nI (256 + (cL xs L (k + 2) 256))))]) (pc := 55) hX hSc (c_L_cell g bS L xs k 9 (by first | assumption | omega) (by first | assumption | omega) (by first | assumption | omega) (by first | assumption | omega)) (CS.of mw240 mw241 mw12 mw242 ⟨by decide +kernel, by decide +kernel, by decide +kernel⟩) (Nat.le_of_ble_eq_true rfl) (Nat.le_of_ble_eq_true rfl) (Nat.le_of_ble_eq_true rfl) (Nat.le_of_ble_eq_true rfl) [] (by decide +kernel) rfl rfl rfl (Nat.le_of_ble_eq_true rfl) dL_things_55 (fun r11 wz hq12 => ?_)
    obtain ⟨hcl_13, rfl, rfl⟩ := hq12
    refine j_ws (ws2 := []) rfl ?_
    have h95 := cL_lt (xs := xs) (L := L) (k := k) (n := 9) (by decide)
    refine j_ishl (pc := 58) hX dL_things_58 ?_
    refine j_top (b := bI (cL xs L k 9)) rfl ?_
    refine j_ior (pc := 59) hX dL_things_59 ?_
    exact j_iret (pc := 60) hX hQ dL_things_60 rfl ⟨(by first | rfl | first | (simp only [jb_t, jb_f, tH, hcl_3, c6_4, c6_4n, hcl_7, hcl_10, hcl_13, reduceIte, eq_self, decide_true, decide_false, Bool.and_true, Bool.true_and, Bool.and_false, Bool.false_and, Bool.and_self, not_true_eq_false, not_false_eq_true, and_true, true_and, and_false, false_and, and_self]; done) | (simp [jb_t, jb_f, tH, hcl_3, c6_4, c6_4n, hcl_7, hcl_10, hcl_13]; done)), (by first | rfl | first | (simp only [jb_t, jb_f, tH, hcl_3, c6_4, c6_4n, hcl_7, hcl_10, hcl_13, reduceIte, eq_self, decide_true, decide_false, Bool.and_true, Bool.true_and, Bool.and_false, Bool.false_and, Bool.and_self, not_true_eq_false, not_false_eq_true, and_true, true_and, and_false, false_and, and_self]; done) | (simp [jb_t, jb_f, tH, hcl_3, c6_4, c6_4n, hcl_7, hcl_10, hcl_13]; done))⟩
  · skip
    have c6_4n : (cL xs L k 3) = 0 := (nI_eq (a := (cL xs L k 3)) (b := 0) (by omega) (by omega)).mp c6_4
    refine j_iconst (v := 1) (pc := 9) hX dL_things_9 (by decide) ?_
    refine j_aload_n (pc := 10) hX dL_things_10 0 rfl ?_
    refine j_iload_n (pc := 11) hX dL_things_11 1 rfl ?_
    refine j_iconst (v := 1) (pc := 12) hX dL_things_12 (by decide) ?_
    refine j_iadd (pc := 13) hX dL_things_13 ?_
    refine j_top (b := nI (k + 1)) (nI_add k 1) ?_
    refine j_ldc (v := 262143) (pc := 14) hX mw487 dL_things_14 ?_
    refine j_callSS (n := 3) (As := [.ref bS, .int (nI (k + 1)), .int 262143]) (rest := [.int 1]) (pc := 16) hX hSc (c_L_cell g bS L xs (k + 1) 262143 (by first | assumption | omega) (by first | assumption | omega) (by first | assumption | omega) (by first | assumption | omega)) (CS.of mw240 mw241 mw12 mw242 ⟨by decide +kernel, by decide +kernel, by decide +kernel⟩) (Nat.le_of_ble_eq_true rfl) (Nat.le_of_ble_eq_true rfl) (Nat.le_of_ble_eq_true rfl) (Nat.le_of_ble_eq_true rfl) [] (by decide +kernel) rfl rfl rfl (Nat.le_of_ble_eq_true rfl) dL_things_16 (fun r14 wz hq15 => ?_)
    obtain ⟨hcl_16, rfl, rfl⟩ := hq15
    refine j_ws (ws2 := []) rfl ?_
    refine j_iadd (pc := 19) hX dL_things_19 ?_
    refine j_top (b := nI (1 + (cL xs L (k + 1) 262143))) (nI_add 1 (cL xs L (k + 1) 262143)) ?_
    refine j_goto (tgt := 60) (pc := 20) hX dL_things_20 (by decide) ?_
    exact j_iret (pc := 60) hX hQ dL_things_60 rfl ⟨(by first | rfl | first | (simp only [jb_t, jb_f, tH, hcl_3, c6_4, c6_4n, hcl_16, reduceIte, eq_self, decide_true, decide_false, Bool.and_true, Bool.true_and, Bool.and_false, Bool.false_and, Bool.and_self, not_true_eq_false, not_false_eq_true, and_true, true_and, and_false, false_and, and_self]; done) | (simp [jb_t, jb_f, tH, hcl_3, c6_4, c6_4n, hcl_16]; done)), (by first | rfl | first | (simp only [jb_t, jb_f, tH, hcl_3, c6_4, c6_4n, hcl_16, reduceIte, eq_self, decide_true, decide_false, Bool.and_true, Bool.true_and, Bool.and_false, Bool.false_and, Bool.and_self, not_true_eq_false, not_false_eq_true, and_true, true_and, and_false, false_and, and_self]; done) | (simp [jb_t, jb_f, tH, hcl_3, c6_4, c6_4n, hcl_16]; done))⟩

