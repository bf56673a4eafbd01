/-! the reference: the queries by shares -/
theorem maM_TY {v : StT} (hv : v.2.1 ≤ 14) : ∀ (f : Nat) (y : MT), TY v y → TY v (maM v f y)
  | 0, _, h => h
  | f + 1, y, h => by
    rw [maM]
    split
    · exact h
    · exact maM_TY hv f _ (mrM_TY (y := rdM y) hv h 18)
theorem RM_TY {v : StT} {o : Nat → Nat} (hv : v.2.1 ≤ 14) (ho : ∀ j, o j < 100) : TY v (RM v o) := maM_TY hv 500 _ ⟨Nat.zero_le 14, ho, fun j hj => absurd hj (Nat.not_lt_zero j), fun i j _ hj => absurd hj (Nat.not_lt_zero j)⟩
theorem in_lit {c : Int32} {a b : Nat} (hb : b < 1000) (hab : a ≤ b) (h : S_in c (nI a) (nI b) = true) : ∃ u, a ≤ u ∧ u ≤ b ∧ c = nI u := inD hb h hab
theorem in_02 {c : Int32} (h : S_in c 0 2 = true) : c = 0 ∨ c = 1 ∨ c = 2 := by
  obtain ⟨u, h1, h2, rfl⟩ := in_lit (a := 0) (b := 2) (by decide) (by decide) h
  rcases (show u = 0 ∨ u = 1 ∨ u = 2 by omega) with rfl | rfl | rfl
  · exact Or.inl rfl
  · exact Or.inr (Or.inl rfl)
  · exact Or.inr (Or.inr rfl)
theorem in_37 {c : Int32} (h : S_in c 3 7 = true) : c = 3 ∨ c = 4 ∨ c = 5 ∨ c = 6 ∨ c = 7 := by
  obtain ⟨u, h1, h2, rfl⟩ := in_lit (a := 3) (b := 7) (by decide) (by decide) h
  rcases (show u = 3 ∨ u = 4 ∨ u = 5 ∨ u = 6 ∨ u = 7 by omega) with rfl | rfl | rfl | rfl | rfl
  · exact Or.inl rfl
  · exact Or.inr (Or.inl rfl)
  · exact Or.inr (Or.inr (Or.inl rfl))
  · exact Or.inr (Or.inr (Or.inr (Or.inl rfl)))
  · exact Or.inr (Or.inr (Or.inr (Or.inr rfl)))
def rOfSetM (v : StT) (o : Nat → Nat) (k w : Int32) : Int32 := if S_is v.2.1 k = true then (if w = 0 then v.2.2.1 (kN k) else if w = 1 then v.2.2.2.1 (kN k) else if w = 2 then v.2.2.2.2 (kN k) else if w = 3 then qShM v o (kN k) w else if w = 4 then qShM v o (kN k) w else if w = 5 then qShM v o (kN k) w else if w = 6 then qShM v o (kN k) w else if w = 7 then alM v (kN k) else -2) else -1
theorem rOfSetM_n {v : StT} {o : Nat → Nat} {k w : Int32} (h : S_is v.2.1 k = true) (h1 : S_in w 0 2 = false) (h2 : S_in w 3 7 = false) : rOfSetM v o k w = -2 := by
  have e1 : ∀ u : Int32, S_in u 0 2 = true → ¬ w = u := fun u hu hw => by rw [hw, hu] at h1; cases h1
  have e2 : ∀ u : Int32, S_in u 3 7 = true → ¬ w = u := fun u hu hw => by rw [hw, hu] at h2; cases h2
  rw [rOfSetM, if_pos h, if_neg (e1 0 (by decide)), if_neg (e1 1 (by decide)), if_neg (e1 2 (by decide)), if_neg (e2 3 (by decide)), if_neg (e2 4 (by decide)), if_neg (e2 5 (by decide)), if_neg (e2 6 (by decide)), if_neg (e2 7 (by decide))]
theorem in_th (i : Int32) : S_in i 0 17 = okTh i := by
  unfold S_in okTh
  apply decide_eq_decide.mpr
  constructor
  · rintro ⟨h1, h2⟩
    obtain ⟨j, hj, rfl⟩ := nI_of h1
    refine ⟨h1, (nI_ltI (a := j) (b := 18) hj (by decide)).mpr ?_⟩
    have : ¬ 17 < j := fun h => h2 ((nI_ltI (a := 17) (b := j) (by decide) hj).mpr h)
    omega
  · rintro ⟨h1, h2⟩
    obtain ⟨j, hj, rfl⟩ := nI_of h1
    refine ⟨h1, fun h3 => ?_⟩
    have h4 := (nI_ltI (a := j) (b := 18) hj (by decide)).mp h2
    have h5 := (nI_ltI (a := 17) (b := j) (by decide) hj).mp h3
    omega
def rOfThingM (v : StT) (o : Nat → Nat) (k w : Int32) : Int32 := if okTh k = true then (if w = 0 then jb (bt v.1 (kN k)) else if w = 1 then S_sw v.2.2.1 (kN k) v.2.1 else if w = 2 then (if hasM v = true then (RM v o).1 (kN k) else -5) else -2) else -1
def shM (v : StT) (o : Nat → Nat) : Int32 := S_mk v.2.2.2.2 1 v.2.1 ||| (S_ts (RM v o).2.1 (RM v o).2.2.1 &&& (DM v o ^^^ (-1)))
def rSharedM (v : StT) (o : Nat → Nat) (w : Int32) : Int32 := if S_in w 0 5 = true then (if hasM v = true then (if w = 0 then shM v o else if w = 1 then S_sum v.2.2.2.1 (shM v o) v.2.1 else if w = 2 then S_rs (RM v o).1 18 + S_sum v.2.2.2.1 (S_mk v.2.2.2.2 1 v.2.1) v.2.1 else if w = 3 then nI (RM v o).2.2.2.1 else if w = 4 then nI (RM v o).2.2.1 else S_size (DM v o) 18) else -5) else -2

set_option maxHeartbeats 4000000 in
set_option maxRecDepth 100000 in
theorem c_X9_ofSet (g : jG) (m : Nat) (a0 : Nat) (a1 : Nat) (a3 : Nat) (a4 : Nat) (a5 : Nat) (a7 : Nat) (a8 : Nat) (a10 : Nat) (a11 : Nat) (un : Nat) (sg : Nat) (mn : Nat) (ti : Nat) (dr : Int32) (rd : Nat) (op : Int32) (v : StT) (ra : Nat → Int32) (o : Nat → Nat) (k : Int32) (w0 : Int32) (hv : v.2.1 ≤ 14) (ho : ∀ j, o j < 100) (hf : hasM v = true → lfM v (RM v o) = 0) : jMI g yX9_ofSet cX9_ofSet 3 .int 4 87 [.ref m, .int k, .int w0] [(m, .inr (9, [.ref a0, .ref a1, .int (nI un), .ref a3, .ref a4, .ref a5, .int (nI sg), .ref a7, .ref a8, .int (nI mn), .ref a10, .ref a11, .int (nI ti), .int dr, .int (nI rd), .int op])), (a0, .inl (gI g, 60, .inl (nowF v))), (a10, .inl (gI g, 18, .inl ra)), (a11, .inl (gI g, 14, .inl (oI o)))] (fun rz wz => ∃ ra2 : Nat → Int32, ∃ o2 : Nat → Nat, ∃ ti2 : Nat, ∃ dr2 : Int32, ∃ rd2 : Nat, ∃ op2 : Int32, (∀ j, o2 j < 100) ∧ rz = rOfSetM v o k w0 ∧ wz = [(m, .inr (9, [.ref a0, .ref a1, .int (nI un), .ref a3, .ref a4, .ref a5, .int (nI sg), .ref a7, .ref a8, .int (nI mn), .ref a10, .ref a11, .int (nI ti2), .int dr2, .int (nI rd2), .int op2])), (a0, .inl (gI g, 60, .inl (nowF v))), (a10, .inl (gI g, 18, .inl ra2)), (a11, .inl (gI g, 14, .inl (oI o2)))]) := by
  refine jMI.intro (by decide +kernel) (Nat.le_of_ble_eq_true rfl) (fun x hX hQ => ?_)
  refine j_lv (lv2 := [(0, .ref m), (1, .int k), (2, .int w0)]) rfl ?_
  refine j_aload_n (pc := 0) hX dX9_ofSet_0 0 rfl ?_
  refine j_iload_n (pc := 1) hX dX9_ofSet_1 1 rfl ?_
  refine j_callVI (n := 1) (As := [.int k]) (rest := []) (pc := 2) hX (c_X9_isSet g m a0 a1 a3 a4 a5 a7 a8 a10 a11 un sg mn ti dr rd op v k (by first | assumption | omega)) (CV.of mw678 mw679 mw21 mw52 mw680 ⟨rfl, by decide +kernel, by decide +kernel, by decide +kernel⟩ (T := TX9) (N := 16) rfl) (Nat.le_of_ble_eq_true rfl) (Nat.le_of_ble_eq_true rfl) (Nat.le_of_ble_eq_true rfl) (Nat.le_of_ble_eq_true rfl) 0 rfl [0, 1] (by decide +kernel) rfl rfl rfl (Nat.le_of_ble_eq_true rfl) dX9_ofSet_2 (fun r1 wz hq2 => ?_)
  obtain ⟨rfl, rfl⟩ := hq2
  refine j_ws (ws2 := [(m, .inr (9, [.ref a0, .ref a1, .int (nI un), .ref a3, .ref a4, .ref a5, .int (nI sg), .ref a7, .ref a8, .int (nI mn), .ref a10, .ref a11, .int (nI ti), .int dr, .int (nI rd), .int op])), (a0, .inl (gI g, 60, .inl (nowF v))), (a10, .inl (gI g, 18, .inl ra)), (a11, .inl (gI g, 14, .inl (oI o)))]) rfl ?_
  refine j_if_ne (tgt := 10) (pc := 5) hX dX9_ofSet_5 (by decide) (fun c5_3 => ?_) (fun c5_3 => ?_)
  · skip
    have c5_3b : (S_is v.2.1 k) = true := jb_1.mp c5_3
    obtain ⟨j, hj, rfl⟩ := S_is_t hv c5_3b
    refine j_iload_n (pc := 10) hX dX9_ofSet_10 2 rfl ?_
    refine j_iconst (v := 0) (pc := 11) hX dX9_ofSet_11 (by decide) ?_
    refine j_iconst (v := 2) (pc := 12) hX dX9_ofSet_12 (by decide) ?_
    refine j_callSI (n := 3) (As := [.int w0, .int 0, .int 2]) (rest := []) (pc := 13) hX (c_X9_in g w0 0 2 ) (CS.of mw661 mw662 mw52 mw663 ⟨by decide +kernel, by decide +kernel, by decide +kernel⟩) (Nat.le_of_ble_eq_true rfl) (Nat.le_of_ble_eq_true rfl) (Nat.le_of_ble_eq_true rfl) (Nat.le_of_ble_eq_true rfl) [] (by decide +kernel) rfl rfl rfl (Nat.le_of_ble_eq_true rfl) dX9_ofSet_13 (fun r4 wz hq5 => ?_)
    obtain ⟨rfl, rfl⟩ := hq5
    refine j_ws (ws2 := [(m, .inr (9, [.ref a0, .ref a1, .int (nI un), .ref a3, .ref a4, .ref a5, .int (nI sg), .ref a7, .ref a8, .int (nI mn), .ref a10, .ref a11, .int (nI ti), .int dr, .int (nI rd), .int op])), (a0, .inl (gI g, 60, .inl (nowF v))), (a10, .inl (gI g, 18, .inl ra)), (a11, .inl (gI g, 14, .inl (oI o)))]) rfl ?_
    refine j_if_eq (tgt := 33) (pc := 16) hX dX9_ofSet_16 (by decide) (fun c16_6 => ?_) (fun c16_6 => ?_)
    · skip
      have c16_6b : (S_in w0 0 2) = false := jb_0.mp c16_6
      refine j_iload_n (pc := 33) hX dX9_ofSet_33 2 rfl ?_
      refine j_iconst (v := 3) (pc := 34) hX dX9_ofSet_34 (by decide) ?_
      refine j_bipush (v := 7) (pc := 35) hX dX9_ofSet_35 (by decide) ?_
      refine j_callSI (n := 3) (As := [.int w0, .int 3, .int 7]) (rest := []) (pc := 37) hX (c_X9_in g w0 3 7 ) (CS.of mw661 mw662 mw52 mw663 ⟨by decide +kernel, by decide +kernel, by decide +kernel⟩) (Nat.le_of_ble_eq_true rfl) (Nat.le_of_ble_eq_true rfl) (Nat.le_of_ble_eq_true rfl) (Nat.le_of_ble_eq_true rfl) [] (by decide +kernel) rfl rfl rfl (Nat.le_of_ble_eq_true rfl) dX9_ofSet_37 (fun r7 wz hq8 => ?_)
      obtain ⟨rfl, rfl⟩ := hq8
      refine j_ws (ws2 := [(m, .inr (9, [.ref a0, .ref a1, .int (nI un), .ref a3, .ref a4, .ref a5, .int (nI sg), .ref a7, .ref a8, .int (nI mn), .ref a10, .ref a11, .int (nI ti), .int dr, .int (nI rd), .int op])), (a0, .inl (gI g, 60, .inl (nowF v))), (a10, .inl (gI g, 18, .inl ra)), (a11, .inl (gI g, 14, .inl (oI o)))]) rfl ?_
      refine j_if_ne (tgt := 46) (pc := 40) hX dX9_ofSet_40 (by decide) (fun c40_9 => ?_) (fun c40_9 => ?_)
      · skip
        have c40_9b : (S_in w0 3 7) = true := jb_1.mp c40_9
        rcases in_37 c40_9b with rfl | rfl | rfl | rfl | rfl
        · skip
          refine j_iload_n (pc := 46) hX dX9_ofSet_46 2 rfl ?_
          refine j_bipush (v := 7) (pc := 47) hX dX9_ofSet_47 (by decide) ?_
          refine j_icmp_ne (tgt := 58) (pc := 49) hX dX9_ofSet_49 (by decide) (fun _ => ?_) (fun h9 => absurd h9 (by decide))
          refine j_aload_n (pc := 58) hX dX9_ofSet_58 0 rfl ?_
          refine j_callVI (n := 0) (As := []) (rest := []) (pc := 59) hX (c_X9_hasCover g m a0 a1 a3 a4 a5 a7 a8 a10 a11 un sg mn ti dr rd op v (by first | assumption | omega)) (CV.of mw741 mw742 mw30 mw52 mw743 ⟨rfl, by decide +kernel, by decide +kernel, by decide +kernel⟩ (T := TX9) (N := 16) rfl) (Nat.le_of_ble_eq_true rfl) (Nat.le_of_ble_eq_true rfl) (Nat.le_of_ble_eq_true rfl) (Nat.le_of_ble_eq_true rfl) 0 rfl [0, 1] (by decide +kernel) rfl rfl rfl (Nat.le_of_ble_eq_true rfl) dX9_ofSet_59 (fun r10 wz hq11 => ?_)
          obtain ⟨rfl, rfl⟩ := hq11
          refine j_ws (ws2 := [(m, .inr (9, [.ref a0, .ref a1, .int (nI un), .ref a3, .ref a4, .ref a5, .int (nI sg), .ref a7, .ref a8, .int (nI mn), .ref a10, .ref a11, .int (nI ti), .int dr, .int (nI rd), .int op])), (a0, .inl (gI g, 60, .inl (nowF v))), (a10, .inl (gI g, 18, .inl ra)), (a11, .inl (gI g, 14, .inl (oI o)))]) rfl ?_
          refine j_if_ne (tgt := 68) (pc := 62) hX dX9_ofSet_62 (by decide) (fun c62_12 => ?_) (fun c62_12 => ?_)
          · skip
            have c62_12b : (hasM v) = true := jb_1.mp c62_12
            refine j_aload_n (pc := 68) hX dX9_ofSet_68 0 rfl ?_
            refine j_callVV (n := 0) (As := []) (rest := []) (pc := 69) hX (c_X9_layShares g m a0 a1 a3 a4 a5 a7 a8 a10 a11 un sg mn ti dr rd op v ra o (by first | assumption | omega) (by first | assumption | omega) (hf c62_12b)) (CV.of mw747 mw748 mw32 mw52 mw749 ⟨rfl, by decide +kernel, by decide +kernel, by decide +kernel⟩ (T := TX9) (N := 16) rfl) (Nat.le_of_ble_eq_true rfl) (Nat.le_of_ble_eq_true rfl) (Nat.le_of_ble_eq_true rfl) (Nat.le_of_ble_eq_true rfl) 0 rfl [0, 1, 2, 3] (by decide +kernel) rfl rfl rfl (Nat.le_of_ble_eq_true rfl) dX9_ofSet_69 (fun wz wnz hq14 => ?_)
            obtain ⟨rfl, rfl⟩ := hq14
            refine j_ws (ws2 := [(m, .inr (9, [.ref a0, .ref a1, .int (nI un), .ref a3, .ref a4, .ref a5, .int (nI sg), .ref a7, .ref a8, .int (nI mn), .ref a10, .ref a11, .int (nI ((RM v o).2.2.1)), .int (DM v o), .int (nI ((RM v o).2.2.2.1)), .int ((RM v o).2.2.2.2)])), (a0, .inl (gI g, 60, .inl (nowF v))), (a10, .inl (gI g, 18, .inl ((RM v o).1))), (a11, .inl (gI g, 14, .inl (oI ((RM v o).2.1))))]) rfl ?_
            have hTY := RM_TY (o := o) hv ho
            have hTY1 := hTY.1
            refine j_iload_n (pc := 72) hX dX9_ofSet_72 2 rfl ?_
            refine j_tabIn (off := 27) (tgt := 100) (pc := 73) hX dX9_ofSet_73 (by decide) (by decide) (by decide) (by decide) ?_
            refine j_aload_n (pc := 100) hX dX9_ofSet_100 0 rfl ?_
            refine j_iload_n (pc := 101) hX dX9_ofSet_101 1 rfl ?_
            refine j_callVI (n := 1) (As := [.int (nI j)]) (rest := []) (pc := 102) hX (c_X9_markOf g m a0 a1 a3 a4 a5 a7 a8 a10 a11 un sg mn ((RM v o).2.2.1) (DM v o) ((RM v o).2.2.2.1) ((RM v o).2.2.2.2) v j (by first | assumption | omega)) (CV.of mw688 mw689 mw23 mw52 mw690 ⟨rfl, by decide +kernel, by decide +kernel, by decide +kernel⟩ (T := TX9) (N := 16) rfl) (Nat.le_of_ble_eq_true rfl) (Nat.le_of_ble_eq_true rfl) (Nat.le_of_ble_eq_true rfl) (Nat.le_of_ble_eq_true rfl) 0 rfl [0, 1] (by decide +kernel) rfl rfl rfl (Nat.le_of_ble_eq_true rfl) dX9_ofSet_102 (fun r15 wz hq16 => ?_)
            obtain ⟨rfl, rfl⟩ := hq16
            refine j_ws (ws2 := [(m, .inr (9, [.ref a0, .ref a1, .int (nI un), .ref a3, .ref a4, .ref a5, .int (nI sg), .ref a7, .ref a8, .int (nI mn), .ref a10, .ref a11, .int (nI ((RM v o).2.2.1)), .int (DM v o), .int (nI ((RM v o).2.2.2.1)), .int ((RM v o).2.2.2.2)])), (a0, .inl (gI g, 60, .inl (nowF v))), (a10, .inl (gI g, 18, .inl ((RM v o).1))), (a11, .inl (gI g, 14, .inl (oI ((RM v o).2.1))))]) rfl ?_
            refine j_if_ne (tgt := 116) (pc := 105) hX dX9_ofSet_105 (by decide) (fun c105_17 => ?_) (fun c105_17 => ?_)
            · skip
              refine j_iconst (v := 0) (pc := 116) hX dX9_ofSet_116 (by decide) ?_
              exact j_iret (pc := 117) hX hQ dX9_ofSet_117 rfl ⟨(RM v o).1, (RM v o).2.1, ((RM v o).2.2.1), (DM v o), ((RM v o).2.2.2.1), ((RM v o).2.2.2.2), ((RM_TY hv ho).2.1), (by unfold rOfSetM qShM; rw [if_pos c5_3b, kN_nI (show j < 100 by omega)]; first | (simp only [jb_t, jb_f, c5_3, c5_3b, c62_12, c62_12b, c105_17, reduceIte, eq_self, decide_true, decide_false, Bool.and_true, Bool.true_and, Bool.and_false, Bool.false_and, Bool.and_self, not_true_eq_false, not_false_eq_true, and_true, true_and, and_false, false_and, and_self]; done) | (simp [jb_t, jb_f, c5_3, c5_3b, c62_12, c62_12b, c105_17]; done)), (rfl)⟩
            · skip
              refine j_aload_n (pc := 108) hX dX9_ofSet_108 0 rfl ?_
              refine j_iload_n (pc := 109) hX dX9_ofSet_109 1 rfl ?_
              refine j_callVI (n := 1) (As := [.int (nI j)]) (rest := []) (pc := 110) hX (c_X9_filling g m a0 a1 a3 a4 a5 a7 a8 a10 a11 un sg mn ((RM v o).2.2.1) (DM v o) ((RM v o).2.2.2.1) ((RM v o).2.2.2.2) v ((RM v o).1) j (by first | assumption | omega)) (CV.of mw759 mw760 mw36 mw52 mw761 ⟨rfl, by decide +kernel, by decide +kernel, by decide +kernel⟩ (T := TX9) (N := 16) rfl) (Nat.le_of_ble_eq_true rfl) (Nat.le_of_ble_eq_true rfl) (Nat.le_of_ble_eq_true rfl) (Nat.le_of_ble_eq_true rfl) 0 rfl [0, 1, 2] (by decide +kernel) rfl rfl rfl (Nat.le_of_ble_eq_true rfl) dX9_ofSet_110 (fun r18 wz hq19 => ?_)
              obtain ⟨rfl, rfl⟩ := hq19
              refine j_ws (ws2 := [(m, .inr (9, [.ref a0, .ref a1, .int (nI un), .ref a3, .ref a4, .ref a5, .int (nI sg), .ref a7, .ref a8, .int (nI mn), .ref a10, .ref a11, .int (nI ((RM v o).2.2.1)), .int (DM v o), .int (nI ((RM v o).2.2.2.1)), .int ((RM v o).2.2.2.2)])), (a0, .inl (gI g, 60, .inl (nowF v))), (a10, .inl (gI g, 18, .inl ((RM v o).1))), (a11, .inl (gI g, 14, .inl (oI ((RM v o).2.1))))]) rfl ?_
              refine j_goto (tgt := 117) (pc := 113) hX dX9_ofSet_113 (by decide) ?_
              exact j_iret (pc := 117) hX hQ dX9_ofSet_117 rfl ⟨((RM v o).1), (RM v o).2.1, ((RM v o).2.2.1), (DM v o), ((RM v o).2.2.2.1), ((RM v o).2.2.2.2), ((RM_TY hv ho).2.1), (by unfold rOfSetM qShM; rw [if_pos c5_3b, kN_nI (show j < 100 by omega)]; first | (simp only [jb_t, jb_f, c5_3, c5_3b, c62_12, c62_12b, c105_17, reduceIte, eq_self, decide_true, decide_false, Bool.and_true, Bool.true_and, Bool.and_false, Bool.false_and, Bool.and_self, not_true_eq_false, not_false_eq_true, and_true, true_and, and_false, false_and, and_self]; done) | (simp [jb_t, jb_f, c5_3, c5_3b, c62_12, c62_12b, c105_17]; done)), (rfl)⟩
          · skip
            have c62_12b : (hasM v) = false := jb_0.mp c62_12
            refine j_bipush (v := (-5)) (pc := 65) hX dX9_ofSet_65 (by decide) ?_
            exact j_iret (pc := 67) hX hQ dX9_ofSet_67 rfl ⟨ra, o, ti, dr, rd, op, (ho), (by unfold rOfSetM qShM; rw [if_pos c5_3b, kN_nI (show j < 100 by omega)]; first | (simp only [jb_t, jb_f, c5_3, c5_3b, c62_12, c62_12b, reduceIte, eq_self, decide_true, decide_false, Bool.and_true, Bool.true_and, Bool.and_false, Bool.false_and, Bool.and_self, not_true_eq_false, not_false_eq_true, and_true, true_and, and_false, false_and, and_self]; done) | (simp [jb_t, jb_f, c5_3, c5_3b, c62_12, c62_12b]; done)), (rfl)⟩
        · skip
          refine j_iload_n (pc := 46) hX dX9_ofSet_46 2 rfl ?_
          refine j_bipush (v := 7) (pc := 47) hX dX9_ofSet_47 (by decide) ?_
          refine j_icmp_ne (tgt := 58) (pc := 49) hX dX9_ofSet_49 (by decide) (fun _ => ?_) (fun h9 => absurd h9 (by decide))
          refine j_aload_n (pc := 58) hX dX9_ofSet_58 0 rfl ?_
          refine j_callVI (n := 0) (As := []) (rest := []) (pc := 59) hX (c_X9_hasCover g m a0 a1 a3 a4 a5 a7 a8 a10 a11 un sg mn ti dr rd op v (by first | assumption | omega)) (CV.of mw741 mw742 mw30 mw52 mw743 ⟨rfl, by decide +kernel, by decide +kernel, by decide +kernel⟩ (T := TX9) (N := 16) rfl) (Nat.le_of_ble_eq_true rfl) (Nat.le_of_ble_eq_true rfl) (Nat.le_of_ble_eq_true rfl) (Nat.le_of_ble_eq_true rfl) 0 rfl [0, 1] (by decide +kernel) rfl rfl rfl (Nat.le_of_ble_eq_true rfl) dX9_ofSet_59 (fun r20 wz hq21 => ?_)
          obtain ⟨rfl, rfl⟩ := hq21
          refine j_ws (ws2 := [(m, .inr (9, [.ref a0, .ref a1, .int (nI un), .ref a3, .ref a4, .ref a5, .int (nI sg), .ref a7, .ref a8, .int (nI mn), .ref a10, .ref a11, .int (nI ti), .int dr, .int (nI rd), .int op])), (a0, .inl (gI g, 60, .inl (nowF v))), (a10, .inl (gI g, 18, .inl ra)), (a11, .inl (gI g, 14, .inl (oI o)))]) rfl ?_
          refine j_if_ne (tgt := 68) (pc := 62) hX dX9_ofSet_62 (by decide) (fun c62_22 => ?_) (fun c62_22 => ?_)
          · skip
            have c62_22b : (hasM v) = true := jb_1.mp c62_22
            refine j_aload_n (pc := 68) hX dX9_ofSet_68 0 rfl ?_
            refine j_callVV (n := 0) (As := []) (rest := []) (pc := 69) hX (c_X9_layShares g m a0 a1 a3 a4 a5 a7 a8 a10 a11 un sg mn ti dr rd op v ra o (by first | assumption | omega) (by first | assumption | omega) (hf c62_22b)) (CV.of mw747 mw748 mw32 mw52 mw749 ⟨rfl, by decide +kernel, by decide +kernel, by decide +kernel⟩ (T := TX9) (N := 16) rfl) (Nat.le_of_ble_eq_true rfl) (Nat.le_of_ble_eq_true rfl) (Nat.le_of_ble_eq_true rfl) (Nat.le_of_ble_eq_true rfl) 0 rfl [0, 1, 2, 3] (by decide +kernel) rfl rfl rfl (Nat.le_of_ble_eq_true rfl) dX9_ofSet_69 (fun wz wnz hq24 => ?_)
            obtain ⟨rfl, rfl⟩ := hq24
            refine j_ws (ws2 := [(m, .inr (9, [.ref a0, .ref a1, .int (nI un), .ref a3, .ref a4, .ref a5, .int (nI sg), .ref a7, .ref a8, .int (nI mn), .ref a10, .ref a11, .int (nI ((RM v o).2.2.1)), .int (DM v o), .int (nI ((RM v o).2.2.2.1)), .int ((RM v o).2.2.2.2)])), (a0, .inl (gI g, 60, .inl (nowF v))), (a10, .inl (gI g, 18, .inl ((RM v o).1))), (a11, .inl (gI g, 14, .inl (oI ((RM v o).2.1))))]) rfl ?_
            have hTY := RM_TY (o := o) hv ho
            have hTY1 := hTY.1
            refine j_iload_n (pc := 72) hX dX9_ofSet_72 2 rfl ?_
            refine j_tabIn (off := 45) (tgt := 118) (pc := 73) hX dX9_ofSet_73 (by decide) (by decide) (by decide) (by decide) ?_
            refine j_aload_n (pc := 118) hX dX9_ofSet_118 0 rfl ?_
            refine j_iload_n (pc := 119) hX dX9_ofSet_119 1 rfl ?_
            refine j_callVI (n := 1) (As := [.int (nI j)]) (rest := []) (pc := 120) hX (c_X9_placeOf g m a0 a1 a3 a4 a5 a7 a8 a10 a11 un sg mn ((RM v o).2.2.1) (DM v o) ((RM v o).2.2.2.1) ((RM v o).2.2.2.2) ((RM v o).2.1) j (hTY1) (hTY.2.1) (by first | assumption | omega)) (CV.of mw756 mw757 mw35 mw52 mw758 ⟨rfl, by decide +kernel, by decide +kernel, by decide +kernel⟩ (T := TX9) (N := 16) rfl) (Nat.le_of_ble_eq_true rfl) (Nat.le_of_ble_eq_true rfl) (Nat.le_of_ble_eq_true rfl) (Nat.le_of_ble_eq_true rfl) 0 rfl [0, 3] (by decide +kernel) rfl rfl rfl (Nat.le_of_ble_eq_true rfl) dX9_ofSet_120 (fun r25 wz hq26 => ?_)
            obtain ⟨rfl, rfl⟩ := hq26
            refine j_ws (ws2 := [(m, .inr (9, [.ref a0, .ref a1, .int (nI un), .ref a3, .ref a4, .ref a5, .int (nI sg), .ref a7, .ref a8, .int (nI mn), .ref a10, .ref a11, .int (nI ((RM v o).2.2.1)), .int (DM v o), .int (nI ((RM v o).2.2.2.1)), .int ((RM v o).2.2.2.2)])), (a0, .inl (gI g, 60, .inl (nowF v))), (a10, .inl (gI g, 18, .inl ((RM v o).1))), (a11, .inl (gI g, 14, .inl (oI ((RM v o).2.1))))]) rfl ?_
            refine j_if_ge (tgt := 130) (pc := 123) hX dX9_ofSet_123 (by decide) (fun c123_27 => ?_) (fun c123_27 => ?_)
            · skip
              refine j_iconst (v := 1) (pc := 130) hX dX9_ofSet_130 (by decide) ?_
              exact j_iret (pc := 131) hX hQ dX9_ofSet_131 rfl ⟨(RM v o).1, (RM v o).2.1, ((RM v o).2.2.1), (DM v o), ((RM v o).2.2.2.1), ((RM v o).2.2.2.2), ((RM_TY hv ho).2.1), (by unfold rOfSetM qShM; rw [if_pos c5_3b, kN_nI (show j < 100 by omega)]; first | (simp only [jb_t, jb_f, c5_3, c5_3b, c62_22, c62_22b, c123_27, reduceIte, eq_self, decide_true, decide_false, Bool.and_true, Bool.true_and, Bool.and_false, Bool.false_and, Bool.and_self, not_true_eq_false, not_false_eq_true, and_true, true_and, and_false, false_and, and_self]; done) | (simp [jb_t, jb_f, c5_3, c5_3b, c62_22, c62_22b, c123_27]; done)), (rfl)⟩
            · skip
              refine j_iconst (v := 0) (pc := 126) hX dX9_ofSet_126 (by decide) ?_
              refine j_goto (tgt := 131) (pc := 127) hX dX9_ofSet_127 (by decide) ?_
              exact j_iret (pc := 131) hX hQ dX9_ofSet_131 rfl ⟨(RM v o).1, (RM v o).2.1, ((RM v o).2.2.1), (DM v o), ((RM v o).2.2.2.1), ((RM v o).2.2.2.2), ((RM_TY hv ho).2.1), (by unfold rOfSetM qShM; rw [if_pos c5_3b, kN_nI (show j < 100 by omega)]; first | (simp only [jb_t, jb_f, c5_3, c5_3b, c62_22, c62_22b, c123_27, reduceIte, eq_self, decide_true, decide_false, Bool.and_true, Bool.true_and, Bool.and_false, Bool.false_and, Bool.and_self, not_true_eq_false, not_false_eq_true, and_true, true_and, and_false, false_and, and_self]; done) | (simp [jb_t, jb_f, c5_3, c5_3b, c62_22, c62_22b, c123_27]; done)), (rfl)⟩
          · skip
            have c62_22b : (hasM v) = false := jb_0.mp c62_22
            refine j_bipush (v := (-5)) (pc := 65) hX dX9_ofSet_65 (by decide) ?_
            exact j_iret (pc := 67) hX hQ dX9_ofSet_67 rfl ⟨ra, o, ti, dr, rd, op, (ho), (by unfold rOfSetM qShM; rw [if_pos c5_3b, kN_nI (show j < 100 by omega)]; first | (simp only [jb_t, jb_f, c5_3, c5_3b, c62_22, c62_22b, reduceIte, eq_self, decide_true, decide_false, Bool.and_true, Bool.true_and, Bool.and_false, Bool.false_and, Bool.and_self, not_true_eq_false, not_false_eq_true, and_true, true_and, and_false, false_and, and_self]; done) | (simp [jb_t, jb_f, c5_3, c5_3b, c62_22, c62_22b]; done)), (rfl)⟩
        · skip
          refine j_iload_n (pc := 46) hX dX9_ofSet_46 2 rfl ?_
          refine j_bipush (v := 7) (pc := 47) hX dX9_ofSet_47 (by decide) ?_
          refine j_icmp_ne (tgt := 58) (pc := 49) hX dX9_ofSet_49 (by decide) (fun _ => ?_) (fun h9 => absurd h9 (by decide))
          refine j_aload_n (pc := 58) hX dX9_ofSet_58 0 rfl ?_
          refine j_callVI (n := 0) (As := []) (rest := []) (pc := 59) hX (c_X9_hasCover g m a0 a1 a3 a4 a5 a7 a8 a10 a11 un sg mn ti dr rd op v (by first | assumption | omega)) (CV.of mw741 mw742 mw30 mw52 mw743 ⟨rfl, by decide +kernel, by decide +kernel, by decide +kernel⟩ (T := TX9) (N := 16) rfl) (Nat.le_of_ble_eq_true rfl) (Nat.le_of_ble_eq_true rfl) (Nat.le_of_ble_eq_true rfl) (Nat.le_of_ble_eq_true rfl) 0 rfl [0, 1] (by decide +kernel) rfl rfl rfl (Nat.le_of_ble_eq_true rfl) dX9_ofSet_59 (fun r28 wz hq29 => ?_)
          obtain ⟨rfl, rfl⟩ := hq29
          refine j_ws (ws2 := [(m, .inr (9, [.ref a0, .ref a1, .int (nI un), .ref a3, .ref a4, .ref a5, .int (nI sg), .ref a7, .ref a8, .int (nI mn), .ref a10, .ref a11, .int (nI ti), .int dr, .int (nI rd), .int op])), (a0, .inl (gI g, 60, .inl (nowF v))), (a10, .inl (gI g, 18, .inl ra)), (a11, .inl (gI g, 14, .inl (oI o)))]) rfl ?_
          refine j_if_ne (tgt := 68) (pc := 62) hX dX9_ofSet_62 (by decide) (fun c62_30 => ?_) (fun c62_30 => ?_)
          · skip
            have c62_30b : (hasM v) = true := jb_1.mp c62_30
            refine j_aload_n (pc := 68) hX dX9_ofSet_68 0 rfl ?_
            refine j_callVV (n := 0) (As := []) (rest := []) (pc := 69) hX (c_X9_layShares g m a0 a1 a3 a4 a5 a7 a8 a10 a11 un sg mn ti dr rd op v ra o (by first | assumption | omega) (by first | assumption | omega) (hf c62_30b)) (CV.of mw747 mw748 mw32 mw52 mw749 ⟨rfl, by decide +kernel, by decide +kernel, by decide +kernel⟩ (T := TX9) (N := 16) rfl) (Nat.le_of_ble_eq_true rfl) (Nat.le_of_ble_eq_true rfl) (Nat.le_of_ble_eq_true rfl) (Nat.le_of_ble_eq_true rfl) 0 rfl [0, 1, 2, 3] (by decide +kernel) rfl rfl rfl (Nat.le_of_ble_eq_true rfl) dX9_ofSet_69 (fun wz wnz hq32 => ?_)
            obtain ⟨rfl, rfl⟩ := hq32
            refine j_ws (ws2 := [(m, .inr (9, [.ref a0, .ref a1, .int (nI un), .ref a3, .ref a4, .ref a5, .int (nI sg), .ref a7, .ref a8, .int (nI mn), .ref a10, .ref a11, .int (nI ((RM v o).2.2.1)), .int (DM v o), .int (nI ((RM v o).2.2.2.1)), .int ((RM v o).2.2.2.2)])), (a0, .inl (gI g, 60, .inl (nowF v))), (a10, .inl (gI g, 18, .inl ((RM v o).1))), (a11, .inl (gI g, 14, .inl (oI ((RM v o).2.1))))]) rfl ?_
            have hTY := RM_TY (o := o) hv ho
            have hTY1 := hTY.1
            refine j_iload_n (pc := 72) hX dX9_ofSet_72 2 rfl ?_
            refine j_tabIn (off := 59) (tgt := 132) (pc := 73) hX dX9_ofSet_73 (by decide) (by decide) (by decide) (by decide) ?_
            refine j_aload_n (pc := 132) hX dX9_ofSet_132 0 rfl ?_
            refine j_iload_n (pc := 133) hX dX9_ofSet_133 1 rfl ?_
            refine j_callVI (n := 1) (As := [.int (nI j)]) (rest := []) (pc := 134) hX (c_X9_placeOf g m a0 a1 a3 a4 a5 a7 a8 a10 a11 un sg mn ((RM v o).2.2.1) (DM v o) ((RM v o).2.2.2.1) ((RM v o).2.2.2.2) ((RM v o).2.1) j (hTY1) (hTY.2.1) (by first | assumption | omega)) (CV.of mw756 mw757 mw35 mw52 mw758 ⟨rfl, by decide +kernel, by decide +kernel, by decide +kernel⟩ (T := TX9) (N := 16) rfl) (Nat.le_of_ble_eq_true rfl) (Nat.le_of_ble_eq_true rfl) (Nat.le_of_ble_eq_true rfl) (Nat.le_of_ble_eq_true rfl) 0 rfl [0, 3] (by decide +kernel) rfl rfl rfl (Nat.le_of_ble_eq_true rfl) dX9_ofSet_134 (fun r33 wz hq34 => ?_)
            obtain ⟨rfl, rfl⟩ := hq34
            refine j_ws (ws2 := [(m, .inr (9, [.ref a0, .ref a1, .int (nI un), .ref a3, .ref a4, .ref a5, .int (nI sg), .ref a7, .ref a8, .int (nI mn), .ref a10, .ref a11, .int (nI ((RM v o).2.2.1)), .int (DM v o), .int (nI ((RM v o).2.2.2.1)), .int ((RM v o).2.2.2.2)])), (a0, .inl (gI g, 60, .inl (nowF v))), (a10, .inl (gI g, 18, .inl ((RM v o).1))), (a11, .inl (gI g, 14, .inl (oI ((RM v o).2.1))))]) rfl ?_
            exact j_iret (pc := 137) hX hQ dX9_ofSet_137 rfl ⟨(RM v o).1, (RM v o).2.1, ((RM v o).2.2.1), (DM v o), ((RM v o).2.2.2.1), ((RM v o).2.2.2.2), ((RM_TY hv ho).2.1), (by unfold rOfSetM qShM; rw [if_pos c5_3b, kN_nI (show j < 100 by omega)]; first | (simp only [jb_t, jb_f, c5_3, c5_3b, c62_30, c62_30b, reduceIte, eq_self, decide_true, decide_false, Bool.and_true, Bool.true_and, Bool.and_false, Bool.false_and, Bool.and_self, not_true_eq_false, not_false_eq_true, and_true, true_and, and_false, false_and, and_self]; done) | (simp [jb_t, jb_f, c5_3, c5_3b, c62_30, c62_30b]; done)), (rfl)⟩
          · skip
            have c62_30b : (hasM v) = false := jb_0.mp c62_30
            refine j_bipush (v := (-5)) (pc := 65) hX dX9_ofSet_65 (by decide) ?_
            exact j_iret (pc := 67) hX hQ dX9_ofSet_67 rfl ⟨ra, o, ti, dr, rd, op, (ho), (by unfold rOfSetM qShM; rw [if_pos c5_3b, kN_nI (show j < 100 by omega)]; first | (simp only [jb_t, jb_f, c5_3, c5_3b, c62_30, c62_30b, reduceIte, eq_self, decide_true, decide_false, Bool.and_true, Bool.true_and, Bool.and_false, Bool.false_and, Bool.and_self, not_true_eq_false, not_false_eq_true, and_true, true_and, and_false, false_and, and_self]; done) | (simp [jb_t, jb_f, c5_3, c5_3b, c62_30, c62_30b]; done)), (rfl)⟩
        · skip
          refine j_iload_n (pc := 46) hX dX9_ofSet_46 2 rfl ?_
          refine j_bipush (v := 7) (pc := 47) hX dX9_ofSet_47 (by decide) ?_
          refine j_icmp_ne (tgt := 58) (pc := 49) hX dX9_ofSet_49 (by decide) (fun _ => ?_) (fun h9 => absurd h9 (by decide))
          refine j_aload_n (pc := 58) hX dX9_ofSet_58 0 rfl ?_
          refine j_callVI (n := 0) (As := []) (rest := []) (pc := 59) hX (c_X9_hasCover g m a0 a1 a3 a4 a5 a7 a8 a10 a11 un sg mn ti dr rd op v (by first | assumption | omega)) (CV.of mw741 mw742 mw30 mw52 mw743 ⟨rfl, by decide +kernel, by decide +kernel, by decide +kernel⟩ (T := TX9) (N := 16) rfl) (Nat.le_of_ble_eq_true rfl) (Nat.le_of_ble_eq_true rfl) (Nat.le_of_ble_eq_true rfl) (Nat.le_of_ble_eq_true rfl) 0 rfl [0, 1] (by decide +kernel) rfl rfl rfl (Nat.le_of_ble_eq_true rfl) dX9_ofSet_59 (fun r35 wz hq36 => ?_)
          obtain ⟨rfl, rfl⟩ := hq36
          refine j_ws (ws2 := [(m, .inr (9, [.ref a0, .ref a1, .int (nI un), .ref a3, .ref a4, .ref a5, .int (nI sg), .ref a7, .ref a8, .int (nI mn), .ref a10, .ref a11, .int (nI ti), .int dr, .int (nI rd), .int op])), (a0, .inl (gI g, 60, .inl (nowF v))), (a10, .inl (gI g, 18, .inl ra)), (a11, .inl (gI g, 14, .inl (oI o)))]) rfl ?_
          refine j_if_ne (tgt := 68) (pc := 62) hX dX9_ofSet_62 (by decide) (fun c62_37 => ?_) (fun c62_37 => ?_)
          · skip
            have c62_37b : (hasM v) = true := jb_1.mp c62_37
            refine j_aload_n (pc := 68) hX dX9_ofSet_68 0 rfl ?_
            refine j_callVV (n := 0) (As := []) (rest := []) (pc := 69) hX (c_X9_layShares g m a0 a1 a3 a4 a5 a7 a8 a10 a11 un sg mn ti dr rd op v ra o (by first | assumption | omega) (by first | assumption | omega) (hf c62_37b)) (CV.of mw747 mw748 mw32 mw52 mw749 ⟨rfl, by decide +kernel, by decide +kernel, by decide +kernel⟩ (T := TX9) (N := 16) rfl) (Nat.le_of_ble_eq_true rfl) (Nat.le_of_ble_eq_true rfl) (Nat.le_of_ble_eq_true rfl) (Nat.le_of_ble_eq_true rfl) 0 rfl [0, 1, 2, 3] (by decide +kernel) rfl rfl rfl (Nat.le_of_ble_eq_true rfl) dX9_ofSet_69 (fun wz wnz hq39 => ?_)
            obtain ⟨rfl, rfl⟩ := hq39
            refine j_ws (ws2 := [(m, .inr (9, [.ref a0, .ref a1, .int (nI un), .ref a3, .ref a4, .ref a5, .int (nI sg), .ref a7, .ref a8, .int (nI mn), .ref a10, .ref a11, .int (nI ((RM v o).2.2.1)), .int (DM v o), .int (nI ((RM v o).2.2.2.1)), .int ((RM v o).2.2.2.2)])), (a0, .inl (gI g, 60, .inl (nowF v))), (a10, .inl (gI g, 18, .inl ((RM v o).1))), (a11, .inl (gI g, 14, .inl (oI ((RM v o).2.1))))]) rfl ?_
            have hTY := RM_TY (o := o) hv ho
            have hTY1 := hTY.1
            refine j_iload_n (pc := 72) hX dX9_ofSet_72 2 rfl ?_
            refine j_tabOut (tgt := 138) (pc := 73) hX dX9_ofSet_73 (by decide) (by decide) ?_
            refine j_aload_n (pc := 138) hX dX9_ofSet_138 0 rfl ?_
            refine j_get (ci := 9) (pc := 139) hX inG9 rfl 13 (by decide) mw637 0 rfl rfl dX9_ofSet_139 ?_
            refine j_iload_n (pc := 142) hX dX9_ofSet_142 1 rfl ?_
            refine j_ishr (pc := 143) hX dX9_ofSet_143 ?_
            refine j_iconst (v := 1) (pc := 144) hX dX9_ofSet_144 (by decide) ?_
            refine j_iand (pc := 145) hX dX9_ofSet_145 ?_
            refine j_top (b := jb (bt (DM v o) j)) (b_sh1 (by omega)) ?_
            exact j_iret (pc := 146) hX hQ dX9_ofSet_146 rfl ⟨(RM v o).1, (RM v o).2.1, (RM v o).2.2.1, DM v o, (RM v o).2.2.2.1, (RM v o).2.2.2.2, ((RM_TY hv ho).2.1), (by unfold rOfSetM qShM; rw [if_pos c5_3b, kN_nI (show j < 100 by omega)]; first | (simp only [jb_t, jb_f, c5_3, c5_3b, c62_37, c62_37b, reduceIte, eq_self, decide_true, decide_false, Bool.and_true, Bool.true_and, Bool.and_false, Bool.false_and, Bool.and_self, not_true_eq_false, not_false_eq_true, and_true, true_and, and_false, false_and, and_self]; done) | (simp [jb_t, jb_f, c5_3, c5_3b, c62_37, c62_37b]; done)), (rfl)⟩
          · skip
            have c62_37b : (hasM v) = false := jb_0.mp c62_37
            refine j_bipush (v := (-5)) (pc := 65) hX dX9_ofSet_65 (by decide) ?_
            exact j_iret (pc := 67) hX hQ dX9_ofSet_67 rfl ⟨ra, o, ti, dr, rd, op, (ho), (by unfold rOfSetM qShM; rw [if_pos c5_3b, kN_nI (show j < 100 by omega)]; first | (simp only [jb_t, jb_f, c5_3, c5_3b, c62_37, c62_37b, reduceIte, eq_self, decide_true, decide_false, Bool.and_true, Bool.true_and, Bool.and_false, Bool.false_and, Bool.and_self, not_true_eq_false, not_false_eq_true, and_true, true_and, and_false, false_and, and_self]; done) | (simp [jb_t, jb_f, c5_3, c5_3b, c62_37, c62_37b]; done)), (rfl)⟩
        · skip
          refine j_iload_n (pc := 46) hX dX9_ofSet_46 2 rfl ?_
          refine j_bipush (v := 7) (pc := 47) hX dX9_ofSet_47 (by decide) ?_
          refine j_icmp_ne (tgt := 58) (pc := 49) hX dX9_ofSet_49 (by decide) (fun h9 => absurd h9 (by decide)) (fun _ => ?_)
          refine j_aload_n (pc := 52) hX dX9_ofSet_52 0 rfl ?_
          refine j_iload_n (pc := 53) hX dX9_ofSet_53 1 rfl ?_
          refine j_callVI (n := 1) (As := [.int (nI j)]) (rest := []) (pc := 54) hX (c_X9_aloneOf g m a0 a1 a3 a4 a5 a7 a8 a10 a11 un sg mn ti dr rd op v j (by first | assumption | omega) (by first | assumption | omega)) (CV.of mw726 mw727 mw26 mw52 mw728 ⟨rfl, by decide +kernel, by decide +kernel, by decide +kernel⟩ (T := TX9) (N := 16) rfl) (Nat.le_of_ble_eq_true rfl) (Nat.le_of_ble_eq_true rfl) (Nat.le_of_ble_eq_true rfl) (Nat.le_of_ble_eq_true rfl) 0 rfl [0, 1] (by decide +kernel) rfl rfl rfl (Nat.le_of_ble_eq_true rfl) dX9_ofSet_54 (fun r40 wz hq41 => ?_)
          obtain ⟨rfl, rfl⟩ := hq41
          refine j_ws (ws2 := [(m, .inr (9, [.ref a0, .ref a1, .int (nI un), .ref a3, .ref a4, .ref a5, .int (nI sg), .ref a7, .ref a8, .int (nI mn), .ref a10, .ref a11, .int (nI ti), .int dr, .int (nI rd), .int op])), (a0, .inl (gI g, 60, .inl (nowF v))), (a10, .inl (gI g, 18, .inl ra)), (a11, .inl (gI g, 14, .inl (oI o)))]) rfl ?_
          exact j_iret (pc := 57) hX hQ dX9_ofSet_57 rfl ⟨ra, o, ti, dr, rd, op, (ho), (by unfold rOfSetM qShM; rw [if_pos c5_3b, kN_nI (show j < 100 by omega)]; first | (simp only [jb_t, jb_f, c5_3, c5_3b, reduceIte, eq_self, decide_true, decide_false, Bool.and_true, Bool.true_and, Bool.and_false, Bool.false_and, Bool.and_self, not_true_eq_false, not_false_eq_true, and_true, true_and, and_false, false_and, and_self]; done) | (simp [jb_t, jb_f, c5_3, c5_3b]; done)), (rfl)⟩
      · skip
        have c40_9b : (S_in w0 3 7) = false := jb_0.mp c40_9
        refine j_bipush (v := (-2)) (pc := 43) hX dX9_ofSet_43 (by decide) ?_
        exact j_iret (pc := 45) hX hQ dX9_ofSet_45 rfl ⟨ra, o, ti, dr, rd, op, (ho), (by rw [rOfSetM_n c5_3b c16_6b c40_9b]), (rfl)⟩
    · skip
      have c16_6b : (S_in w0 0 2) = true := jb_1.mp c16_6
      rcases in_02 c16_6b with rfl | rfl | rfl
      · skip
        refine j_aload_n (pc := 19) hX dX9_ofSet_19 0 rfl ?_
        refine j_get (ci := 9) (pc := 20) hX inG9 rfl 0 (by decide) mw624 0 rfl rfl dX9_ofSet_20 ?_
        refine j_bipush (v := 10) (pc := 23) hX dX9_ofSet_23 (by decide) ?_
        refine j_iconst (v := 3) (pc := 25) hX dX9_ofSet_25 (by decide) ?_
        refine j_iload_n (pc := 26) hX dX9_ofSet_26 1 rfl ?_
        refine j_imul (pc := 27) hX dX9_ofSet_27 ?_
        refine j_top (b := nI (3 * j)) (pk_mul 3 j) ?_
        refine j_iadd (pc := 28) hX dX9_ofSet_28 ?_
        refine j_top (b := nI (10 + (3 * j))) (nI_add 10 (3 * j)) ?_
        refine j_iload_n (pc := 29) hX dX9_ofSet_29 2 rfl ?_
        refine j_iadd (pc := 30) hX dX9_ofSet_30 ?_
        refine j_top (b := nI ((10 + (3 * j)) + 0)) (nI_add (10 + (3 * j)) 0) ?_
        refine j_iald (pc := 31) hX 1 rfl ((10 + (3 * j)) + 0) rfl (by omega) (by omega) dX9_ofSet_31 ?_
        refine j_top (b := v.2.2.1 j) (nowF_T v j) ?_
        exact j_iret (pc := 32) hX hQ dX9_ofSet_32 rfl ⟨ra, o, ti, dr, rd, op, (ho), (by unfold rOfSetM qShM; rw [if_pos c5_3b, kN_nI (show j < 100 by omega)]; first | (simp only [jb_t, jb_f, c5_3, c5_3b, reduceIte, eq_self, decide_true, decide_false, Bool.and_true, Bool.true_and, Bool.and_false, Bool.false_and, Bool.and_self, not_true_eq_false, not_false_eq_true, and_true, true_and, and_false, false_and, and_self]; done) | (simp [jb_t, jb_f, c5_3, c5_3b]; done)), (rfl)⟩
      · skip
        refine j_aload_n (pc := 19) hX dX9_ofSet_19 0 rfl ?_
        refine j_get (ci := 9) (pc := 20) hX inG9 rfl 0 (by decide) mw624 0 rfl rfl dX9_ofSet_20 ?_
        refine j_bipush (v := 10) (pc := 23) hX dX9_ofSet_23 (by decide) ?_
        refine j_iconst (v := 3) (pc := 25) hX dX9_ofSet_25 (by decide) ?_
        refine j_iload_n (pc := 26) hX dX9_ofSet_26 1 rfl ?_
        refine j_imul (pc := 27) hX dX9_ofSet_27 ?_
        refine j_top (b := nI (3 * j)) (pk_mul 3 j) ?_
        refine j_iadd (pc := 28) hX dX9_ofSet_28 ?_
        refine j_top (b := nI (10 + (3 * j))) (nI_add 10 (3 * j)) ?_
        refine j_iload_n (pc := 29) hX dX9_ofSet_29 2 rfl ?_
        refine j_iadd (pc := 30) hX dX9_ofSet_30 ?_
        refine j_top (b := nI ((10 + (3 * j)) + 1)) (nI_add (10 + (3 * j)) 1) ?_
        refine j_iald (pc := 31) hX 1 rfl ((10 + (3 * j)) + 1) rfl (by omega) (by omega) dX9_ofSet_31 ?_
        refine j_top (b := v.2.2.2.1 j) (nowF_P v j) ?_
        exact j_iret (pc := 32) hX hQ dX9_ofSet_32 rfl ⟨ra, o, ti, dr, rd, op, (ho), (by unfold rOfSetM qShM; rw [if_pos c5_3b, kN_nI (show j < 100 by omega)]; first | (simp only [jb_t, jb_f, c5_3, c5_3b, reduceIte, eq_self, decide_true, decide_false, Bool.and_true, Bool.true_and, Bool.and_false, Bool.false_and, Bool.and_self, not_true_eq_false, not_false_eq_true, and_true, true_and, and_false, false_and, and_self]; done) | (simp [jb_t, jb_f, c5_3, c5_3b]; done)), (rfl)⟩
      · skip
        refine j_aload_n (pc := 19) hX dX9_ofSet_19 0 rfl ?_
        refine j_get (ci := 9) (pc := 20) hX inG9 rfl 0 (by decide) mw624 0 rfl rfl dX9_ofSet_20 ?_
        refine j_bipush (v := 10) (pc := 23) hX dX9_ofSet_23 (by decide) ?_
        refine j_iconst (v := 3) (pc := 25) hX dX9_ofSet_25 (by decide) ?_
        refine j_iload_n (pc := 26) hX dX9_ofSet_26 1 rfl ?_
        refine j_imul (pc := 27) hX dX9_ofSet_27 ?_
        refine j_top (b := nI (3 * j)) (pk_mul 3 j) ?_
        refine j_iadd (pc := 28) hX dX9_ofSet_28 ?_
        refine j_top (b := nI (10 + (3 * j))) (nI_add 10 (3 * j)) ?_
        refine j_iload_n (pc := 29) hX dX9_ofSet_29 2 rfl ?_
        refine j_iadd (pc := 30) hX dX9_ofSet_30 ?_
        refine j_top (b := nI ((10 + (3 * j)) + 2)) (nI_add (10 + (3 * j)) 2) ?_
        refine j_iald (pc := 31) hX 1 rfl ((10 + (3 * j)) + 2) rfl (by omega) (by omega) dX9_ofSet_31 ?_
        refine j_top (b := v.2.2.2.2 j) (nowF_M v j) ?_
        exact j_iret (pc := 32) hX hQ dX9_ofSet_32 rfl ⟨ra, o, ti, dr, rd, op, (ho), (by unfold rOfSetM qShM; rw [if_pos c5_3b, kN_nI (show j < 100 by omega)]; first | (simp only [jb_t, jb_f, c5_3, c5_3b, reduceIte, eq_self, decide_true, decide_false, Bool.and_true, Bool.true_and, Bool.and_false, Bool.false_and, Bool.and_self, not_true_eq_false, not_false_eq_true, and_true, true_and, and_false, false_and, and_self]; done) | (simp [jb_t, jb_f, c5_3, c5_3b]; done)), (rfl)⟩
  · skip
    have c5_3b : (S_is v.2.1 k) = false := jb_0.mp c5_3
    refine j_iconst (v := (-1)) (pc := 8) hX dX9_ofSet_8 (by decide) ?_
    exact j_iret (pc := 9) hX hQ dX9_ofSet_9 rfl ⟨ra, o, ti, dr, rd, op, (ho), (by first | (simp only [jb_t, jb_f, rOfSetM, c5_3b, reduceIte, eq_self, decide_true, decide_false, Bool.and_true, Bool.true_and, Bool.and_false, Bool.false_and, Bool.and_self, not_true_eq_false, not_false_eq_true, and_true, true_and, and_false, false_and, and_self]; done) | (simp [jb_t, jb_f, rOfSetM, c5_3b]; done)), (rfl)⟩

set_option maxHeartbeats 4000000 in
set_option maxRecDepth 100000 in
theorem c_X9_ofThing (g : jG) (m : Nat) (a0 : Nat) (a1 : Nat) (a3 : Nat) (a4 : Nat) (a5 : Nat) (a7 : Nat) (a8 : Nat) (a10 : Nat) (a11 : Nat) (un : Nat) (sg : Nat) (mn : Nat) (ti : Nat) (dr : Int32) (rd : Nat) (op : Int32) (v : StT) (ra : Nat → Int32) (o : Nat → Nat) (k : Int32) (w0 : Int32) (hv : v.2.1 ≤ 14) (ho : ∀ j, o j < 100) (hf : hasM v = true → lfM v (RM v o) = 0) : jMI g yX9_ofThing cX9_ofThing 3 .int 4 87 [.ref m, .int k, .int w0] [(m, .inr (9, [.ref a0, .ref a1, .int (nI un), .ref a3, .ref a4, .ref a5, .int (nI sg), .ref a7, .ref a8, .int (nI mn), .ref a10, .ref a11, .int (nI ti), .int dr, .int (nI rd), .int op])), (a0, .inl (gI g, 60, .inl (nowF v))), (a10, .inl (gI g, 18, .inl ra)), (a11, .inl (gI g, 14, .inl (oI o)))] (fun rz wz => ∃ ra2 : Nat → Int32, ∃ o2 : Nat → Nat, ∃ ti2 : Nat, ∃ dr2 : Int32, ∃ rd2 : Nat, ∃ op2 : Int32, (∀ j, o2 j < 100) ∧ rz = rOfThingM v o k w0 ∧ wz = [(m, .inr (9, [.ref a0, .ref a1, .int (nI un), .ref a3, .ref a4, .ref a5, .int (nI sg), .ref a7, .ref a8, .int (nI mn), .ref a10, .ref a11, .int (nI ti2), .int dr2, .int (nI rd2), .int op2])), (a0, .inl (gI g, 60, .inl (nowF v))), (a10, .inl (gI g, 18, .inl ra2)), (a11, .inl (gI g, 14, .inl (oI o2)))]) := by
  refine jMI.intro (by decide +kernel) (Nat.le_of_ble_eq_true rfl) (fun x hX hQ => ?_)
  refine j_lv (lv2 := [(0, .ref m), (1, .int k), (2, .int w0)]) rfl ?_
  refine j_iload_n (pc := 0) hX dX9_ofThing_0 1 rfl ?_
  refine j_iconst (v := 0) (pc := 1) hX dX9_ofThing_1 (by decide) ?_
  refine j_bipush (v := 17) (pc := 2) hX dX9_ofThing_2 (by decide) ?_
  refine j_callSI (n := 3) (As := [.int k, .int 0, .int 17]) (rest := []) (pc := 4) hX (c_X9_in g k 0 17 ) (CS.of mw661 mw662 mw52 mw663 ⟨by decide +kernel, by decide +kernel, by decide +kernel⟩) (Nat.le_of_ble_eq_true rfl) (Nat.le_of_ble_eq_true rfl) (Nat.le_of_ble_eq_true rfl) (Nat.le_of_ble_eq_true rfl) [] (by decide +kernel) rfl rfl rfl (Nat.le_of_ble_eq_true rfl) dX9_ofThing_4 (fun r1 wz hq2 => ?_)
  obtain ⟨rfl, rfl⟩ := hq2
  refine j_ws (ws2 := [(m, .inr (9, [.ref a0, .ref a1, .int (nI un), .ref a3, .ref a4, .ref a5, .int (nI sg), .ref a7, .ref a8, .int (nI mn), .ref a10, .ref a11, .int (nI ti), .int dr, .int (nI rd), .int op])), (a0, .inl (gI g, 60, .inl (nowF v))), (a10, .inl (gI g, 18, .inl ra)), (a11, .inl (gI g, 14, .inl (oI o)))]) rfl ?_
  refine j_top (b := jb (okTh k)) (by rw [in_th]) ?_
  refine j_if_ne (tgt := 12) (pc := 7) hX dX9_ofThing_7 (by decide) (fun c7_3 => ?_) (fun c7_3 => ?_)
  · skip
    have c7_3b : (okTh k) = true := jb_1.mp c7_3
    obtain ⟨j, hj, rfl⟩ := okTh_t c7_3b
    refine j_iload_n (pc := 12) hX dX9_ofThing_12 2 rfl ?_
    refine j_if_eq (tgt := 21) (pc := 13) hX dX9_ofThing_13 (by decide) (fun c13_4 => ?_) (fun c13_4 => ?_)
    · skip
      refine j_iload_n (pc := 21) hX dX9_ofThing_21 2 rfl ?_
      refine j_if_ne (tgt := 38) (pc := 22) hX dX9_ofThing_22 (by decide) (fun c22_5 => ?_) (fun c22_5 => ?_)
      · exfalso
        exact c22_5 c13_4
      refine j_aload_n (pc := 25) hX dX9_ofThing_25 0 rfl ?_
      refine j_get (ci := 9) (pc := 26) hX inG9 rfl 0 (by decide) mw624 0 rfl rfl dX9_ofThing_26 ?_
      refine j_iconst (v := 1) (pc := 29) hX dX9_ofThing_29 (by decide) ?_
      refine j_iald (pc := 30) hX 1 rfl 1 rfl (by omega) (by omega) dX9_ofThing_30 ?_
      refine j_top (b := v.1) (rfl) ?_
      refine j_iload_n (pc := 31) hX dX9_ofThing_31 1 rfl ?_
      refine j_ishr (pc := 32) hX dX9_ofThing_32 ?_
      refine j_iconst (v := 1) (pc := 33) hX dX9_ofThing_33 (by decide) ?_
      refine j_iand (pc := 34) hX dX9_ofThing_34 ?_
      refine j_top (b := jb (bt v.1 j)) (b_sh1 (by omega)) ?_
      refine j_goto (tgt := 43) (pc := 35) hX dX9_ofThing_35 (by decide) ?_
      exact j_iret (pc := 43) hX hQ dX9_ofThing_43 rfl ⟨ra, o, ti, dr, rd, op, (ho), (by unfold rOfThingM; rw [if_pos c7_3b, kN_nI (show j < 100 by omega)]; first | (simp only [jb_t, jb_f, c7_3, c7_3b, c13_4, c22_5, reduceIte, eq_self, decide_true, decide_false, Bool.and_true, Bool.true_and, Bool.and_false, Bool.false_and, Bool.and_self, not_true_eq_false, not_false_eq_true, and_true, true_and, and_false, false_and, and_self]; done) | (simp [jb_t, jb_f, c7_3, c7_3b, c13_4, c22_5]; done)), (rfl)⟩
    · skip
      refine j_iload_n (pc := 16) hX dX9_ofThing_16 2 rfl ?_
      refine j_iconst (v := 1) (pc := 17) hX dX9_ofThing_17 (by decide) ?_
      refine j_icmp_ne (tgt := 44) (pc := 18) hX dX9_ofThing_18 (by decide) (fun c18_6 => ?_) (fun c18_6 => ?_)
      · skip
        refine j_iload_n (pc := 44) hX dX9_ofThing_44 2 rfl ?_
        refine j_iconst (v := 2) (pc := 45) hX dX9_ofThing_45 (by decide) ?_
        refine j_icmp_eq (tgt := 52) (pc := 46) hX dX9_ofThing_46 (by decide) (fun c46_7 => ?_) (fun c46_7 => ?_)
        · skip
          refine j_aload_n (pc := 52) hX dX9_ofThing_52 0 rfl ?_
          refine j_callVI (n := 0) (As := []) (rest := []) (pc := 53) hX (c_X9_hasCover g m a0 a1 a3 a4 a5 a7 a8 a10 a11 un sg mn ti dr rd op v (by first | assumption | omega)) (CV.of mw741 mw742 mw30 mw52 mw743 ⟨rfl, by decide +kernel, by decide +kernel, by decide +kernel⟩ (T := TX9) (N := 16) rfl) (Nat.le_of_ble_eq_true rfl) (Nat.le_of_ble_eq_true rfl) (Nat.le_of_ble_eq_true rfl) (Nat.le_of_ble_eq_true rfl) 0 rfl [0, 1] (by decide +kernel) rfl rfl rfl (Nat.le_of_ble_eq_true rfl) dX9_ofThing_53 (fun r8 wz hq9 => ?_)
          obtain ⟨rfl, rfl⟩ := hq9
          refine j_ws (ws2 := [(m, .inr (9, [.ref a0, .ref a1, .int (nI un), .ref a3, .ref a4, .ref a5, .int (nI sg), .ref a7, .ref a8, .int (nI mn), .ref a10, .ref a11, .int (nI ti), .int dr, .int (nI rd), .int op])), (a0, .inl (gI g, 60, .inl (nowF v))), (a10, .inl (gI g, 18, .inl ra)), (a11, .inl (gI g, 14, .inl (oI o)))]) rfl ?_
          refine j_if_ne (tgt := 62) (pc := 56) hX dX9_ofThing_56 (by decide) (fun c56_10 => ?_) (fun c56_10 => ?_)
          · skip
            have c56_10b : (hasM v) = true := jb_1.mp c56_10
            refine j_aload_n (pc := 62) hX dX9_ofThing_62 0 rfl ?_
            refine j_callVV (n := 0) (As := []) (rest := []) (pc := 63) hX (c_X9_layShares g m a0 a1 a3 a4 a5 a7 a8 a10 a11 un sg mn ti dr rd op v ra o (by first | assumption | omega) (by first | assumption | omega) (hf c56_10b)) (CV.of mw747 mw748 mw32 mw52 mw749 ⟨rfl, by decide +kernel, by decide +kernel, by decide +kernel⟩ (T := TX9) (N := 16) rfl) (Nat.le_of_ble_eq_true rfl) (Nat.le_of_ble_eq_true rfl) (Nat.le_of_ble_eq_true rfl) (Nat.le_of_ble_eq_true rfl) 0 rfl [0, 1, 2, 3] (by decide +kernel) rfl rfl rfl (Nat.le_of_ble_eq_true rfl) dX9_ofThing_63 (fun wz wnz hq12 => ?_)
            obtain ⟨rfl, rfl⟩ := hq12
            refine j_ws (ws2 := [(m, .inr (9, [.ref a0, .ref a1, .int (nI un), .ref a3, .ref a4, .ref a5, .int (nI sg), .ref a7, .ref a8, .int (nI mn), .ref a10, .ref a11, .int (nI ((RM v o).2.2.1)), .int (DM v o), .int (nI ((RM v o).2.2.2.1)), .int ((RM v o).2.2.2.2)])), (a0, .inl (gI g, 60, .inl (nowF v))), (a10, .inl (gI g, 18, .inl ((RM v o).1))), (a11, .inl (gI g, 14, .inl (oI ((RM v o).2.1))))]) rfl ?_
            refine j_aload_n (pc := 66) hX dX9_ofThing_66 0 rfl ?_
            refine j_get (ci := 9) (pc := 67) hX inG9 rfl 10 (by decide) mw634 0 rfl rfl dX9_ofThing_67 ?_
            refine j_iload_n (pc := 70) hX dX9_ofThing_70 1 rfl ?_
            refine j_iald (pc := 71) hX 2 rfl j rfl (by omega) (by omega) dX9_ofThing_71 ?_
            exact j_iret (pc := 72) hX hQ dX9_ofThing_72 rfl ⟨(RM v o).1, (RM v o).2.1, (RM v o).2.2.1, DM v o, (RM v o).2.2.2.1, (RM v o).2.2.2.2, ((RM_TY hv ho).2.1), (by unfold rOfThingM; rw [if_pos c7_3b, kN_nI (show j < 100 by omega)]; first | (simp only [jb_t, jb_f, c7_3, c7_3b, c13_4, c18_6, c46_7, c56_10, c56_10b, reduceIte, eq_self, decide_true, decide_false, Bool.and_true, Bool.true_and, Bool.and_false, Bool.false_and, Bool.and_self, not_true_eq_false, not_false_eq_true, and_true, true_and, and_false, false_and, and_self]; done) | (simp [jb_t, jb_f, c7_3, c7_3b, c13_4, c18_6, c46_7, c56_10, c56_10b]; done)), (rfl)⟩
          · skip
            have c56_10b : (hasM v) = false := jb_0.mp c56_10
            refine j_bipush (v := (-5)) (pc := 59) hX dX9_ofThing_59 (by decide) ?_
            exact j_iret (pc := 61) hX hQ dX9_ofThing_61 rfl ⟨ra, o, ti, dr, rd, op, (ho), (by unfold rOfThingM; rw [if_pos c7_3b, kN_nI (show j < 100 by omega)]; first | (simp only [jb_t, jb_f, c7_3, c7_3b, c13_4, c18_6, c46_7, c56_10, c56_10b, reduceIte, eq_self, decide_true, decide_false, Bool.and_true, Bool.true_and, Bool.and_false, Bool.false_and, Bool.and_self, not_true_eq_false, not_false_eq_true, and_true, true_and, and_false, false_and, and_self]; done) | (simp [jb_t, jb_f, c7_3, c7_3b, c13_4, c18_6, c46_7, c56_10, c56_10b]; done)), (rfl)⟩
        · skip
          refine j_bipush (v := (-2)) (pc := 49) hX dX9_ofThing_49 (by decide) ?_
          exact j_iret (pc := 51) hX hQ dX9_ofThing_51 rfl ⟨ra, o, ti, dr, rd, op, (ho), (by unfold rOfThingM; rw [if_pos c7_3b, kN_nI (show j < 100 by omega)]; first | (simp only [jb_t, jb_f, c7_3, c7_3b, c13_4, c18_6, c46_7, reduceIte, eq_self, decide_true, decide_false, Bool.and_true, Bool.true_and, Bool.and_false, Bool.false_and, Bool.and_self, not_true_eq_false, not_false_eq_true, and_true, true_and, and_false, false_and, and_self]; done) | (simp [jb_t, jb_f, c7_3, c7_3b, c13_4, c18_6, c46_7]; done)), (rfl)⟩
      · skip
        refine j_iload_n (pc := 21) hX dX9_ofThing_21 2 rfl ?_
        refine j_if_ne (tgt := 38) (pc := 22) hX dX9_ofThing_22 (by decide) (fun c22_13 => ?_) (fun c22_13 => ?_)
        rotate_left
        · exfalso
          exact c13_4 c22_13
        refine j_aload_n (pc := 38) hX dX9_ofThing_38 0 rfl ?_
        refine j_iload_n (pc := 39) hX dX9_ofThing_39 1 rfl ?_
        refine j_callVI (n := 1) (As := [.int (nI j)]) (rest := []) (pc := 40) hX (c_X9_setsWith g m a0 a1 a3 a4 a5 a7 a8 a10 a11 un sg mn ti dr rd op v j (by first | assumption | omega) (by first | assumption | omega)) (CV.of mw766 mw767 mw37 mw52 mw768 ⟨rfl, by decide +kernel, by decide +kernel, by decide +kernel⟩ (T := TX9) (N := 16) rfl) (Nat.le_of_ble_eq_true rfl) (Nat.le_of_ble_eq_true rfl) (Nat.le_of_ble_eq_true rfl) (Nat.le_of_ble_eq_true rfl) 0 rfl [0, 1] (by decide +kernel) rfl rfl rfl (Nat.le_of_ble_eq_true rfl) dX9_ofThing_40 (fun r14 wz hq15 => ?_)
        obtain ⟨rfl, rfl⟩ := hq15
        refine j_ws (ws2 := [(m, .inr (9, [.ref a0, .ref a1, .int (nI un), .ref a3, .ref a4, .ref a5, .int (nI sg), .ref a7, .ref a8, .int (nI mn), .ref a10, .ref a11, .int (nI ti), .int dr, .int (nI rd), .int op])), (a0, .inl (gI g, 60, .inl (nowF v))), (a10, .inl (gI g, 18, .inl ra)), (a11, .inl (gI g, 14, .inl (oI o)))]) rfl ?_
        exact j_iret (pc := 43) hX hQ dX9_ofThing_43 rfl ⟨ra, o, ti, dr, rd, op, (ho), (by unfold rOfThingM; rw [if_pos c7_3b, kN_nI (show j < 100 by omega)]; first | (simp only [jb_t, jb_f, c7_3, c7_3b, c13_4, c18_6, c22_13, reduceIte, eq_self, decide_true, decide_false, Bool.and_true, Bool.true_and, Bool.and_false, Bool.false_and, Bool.and_self, not_true_eq_false, not_false_eq_true, and_true, true_and, and_false, false_and, and_self]; done) | (simp [jb_t, jb_f, c7_3, c7_3b, c13_4, c18_6, c22_13]; done)), (rfl)⟩
  · skip
    have c7_3b : (okTh k) = false := jb_0.mp c7_3
    refine j_iconst (v := (-1)) (pc := 10) hX dX9_ofThing_10 (by decide) ?_
    exact j_iret (pc := 11) hX hQ dX9_ofThing_11 rfl ⟨ra, o, ti, dr, rd, op, (ho), (by first | (simp only [jb_t, jb_f, rOfThingM, c7_3b, reduceIte, eq_self, decide_true, decide_false, Bool.and_true, Bool.true_and, Bool.and_false, Bool.false_and, Bool.and_self, not_true_eq_false, not_false_eq_true, and_true, true_and, and_false, false_and, and_self]; done) | (simp [jb_t, jb_f, rOfThingM, c7_3b]; done)), (rfl)⟩

set_option maxHeartbeats 4000000 in
set_option maxRecDepth 100000 in
theorem c_X9_shared (g : jG) (m : Nat) (a0 : Nat) (a1 : Nat) (a3 : Nat) (a4 : Nat) (a5 : Nat) (a7 : Nat) (a8 : Nat) (a10 : Nat) (a11 : Nat) (un : Nat) (sg : Nat) (mn : Nat) (ti : Nat) (dr : Int32) (rd : Nat) (op : Int32) (v : StT) (ra : Nat → Int32) (o : Nat → Nat) (w0 : Int32) (hv : v.2.1 ≤ 14) (ho : ∀ j, o j < 100) (hf : hasM v = true → lfM v (RM v o) = 0) : jMI g yX9_shared cX9_shared 5 .int 4 87 [.ref m, .int w0] [(m, .inr (9, [.ref a0, .ref a1, .int (nI un), .ref a3, .ref a4, .ref a5, .int (nI sg), .ref a7, .ref a8, .int (nI mn), .ref a10, .ref a11, .int (nI ti), .int dr, .int (nI rd), .int op])), (a0, .inl (gI g, 60, .inl (nowF v))), (a10, .inl (gI g, 18, .inl ra)), (a11, .inl (gI g, 14, .inl (oI o)))] (fun rz wz => ∃ ra2 : Nat → Int32, ∃ o2 : Nat → Nat, ∃ ti2 : Nat, ∃ dr2 : Int32, ∃ rd2 : Nat, ∃ op2 : Int32, (∀ j, o2 j < 100) ∧ rz = rSharedM v o w0 ∧ wz = [(m, .inr (9, [.ref a0, .ref a1, .int (nI un), .ref a3, .ref a4, .ref a5, .int (nI sg), .ref a7, .ref a8, .int (nI mn), .ref a10, .ref a11, .int (nI ti2), .int dr2, .int (nI rd2), .int op2])), (a0, .inl (gI g, 60, .inl (nowF v))), (a10, .inl (gI g, 18, .inl ra2)), (a11, .inl (gI g, 14, .inl (oI o2)))]) := by
  refine jMI.intro (by decide +kernel) (Nat.le_of_ble_eq_true rfl) (fun x hX hQ => ?_)
  refine j_lv (lv2 := [(0, .ref m), (1, .int w0)]) rfl ?_
  refine j_iload_n (pc := 0) hX dX9_shared_0 1 rfl ?_
  refine j_iconst (v := 0) (pc := 1) hX dX9_shared_1 (by decide) ?_
  refine j_iconst (v := 5) (pc := 2) hX dX9_shared_2 (by decide) ?_
  refine j_callSI (n := 3) (As := [.int w0, .int 0, .int 5]) (rest := []) (pc := 3) hX (c_X9_in g w0 0 5 ) (CS.of mw661 mw662 mw52 mw663 ⟨by decide +kernel, by decide +kernel, by decide +kernel⟩) (Nat.le_of_ble_eq_true rfl) (Nat.le_of_ble_eq_true rfl) (Nat.le_of_ble_eq_true rfl) (Nat.le_of_ble_eq_true rfl) [] (by decide +kernel) rfl rfl rfl (Nat.le_of_ble_eq_true rfl) dX9_shared_3 (fun r1 wz hq2 => ?_)
  obtain ⟨rfl, rfl⟩ := hq2
  refine j_ws (ws2 := [(m, .inr (9, [.ref a0, .ref a1, .int (nI un), .ref a3, .ref a4, .ref a5, .int (nI sg), .ref a7, .ref a8, .int (nI mn), .ref a10, .ref a11, .int (nI ti), .int dr, .int (nI rd), .int op])), (a0, .inl (gI g, 60, .inl (nowF v))), (a10, .inl (gI g, 18, .inl ra)), (a11, .inl (gI g, 14, .inl (oI o)))]) rfl ?_
  refine j_if_ne (tgt := 12) (pc := 6) hX dX9_shared_6 (by decide) (fun c6_3 => ?_) (fun c6_3 => ?_)
  · skip
    have c6_3b : (S_in w0 0 5) = true := jb_1.mp c6_3
    refine j_aload_n (pc := 12) hX dX9_shared_12 0 rfl ?_
    refine j_callVI (n := 0) (As := []) (rest := []) (pc := 13) hX (c_X9_hasCover g m a0 a1 a3 a4 a5 a7 a8 a10 a11 un sg mn ti dr rd op v (by first | assumption | omega)) (CV.of mw741 mw742 mw30 mw52 mw743 ⟨rfl, by decide +kernel, by decide +kernel, by decide +kernel⟩ (T := TX9) (N := 16) rfl) (Nat.le_of_ble_eq_true rfl) (Nat.le_of_ble_eq_true rfl) (Nat.le_of_ble_eq_true rfl) (Nat.le_of_ble_eq_true rfl) 0 rfl [0, 1] (by decide +kernel) rfl rfl rfl (Nat.le_of_ble_eq_true rfl) dX9_shared_13 (fun r4 wz hq5 => ?_)
    obtain ⟨rfl, rfl⟩ := hq5
    refine j_ws (ws2 := [(m, .inr (9, [.ref a0, .ref a1, .int (nI un), .ref a3, .ref a4, .ref a5, .int (nI sg), .ref a7, .ref a8, .int (nI mn), .ref a10, .ref a11, .int (nI ti), .int dr, .int (nI rd), .int op])), (a0, .inl (gI g, 60, .inl (nowF v))), (a10, .inl (gI g, 18, .inl ra)), (a11, .inl (gI g, 14, .inl (oI o)))]) rfl ?_
    refine j_if_ne (tgt := 22) (pc := 16) hX dX9_shared_16 (by decide) (fun c16_6 => ?_) (fun c16_6 => ?_)
    · skip
      have c16_6b : (hasM v) = true := jb_1.mp c16_6
      refine j_aload_n (pc := 22) hX dX9_shared_22 0 rfl ?_
      refine j_callVV (n := 0) (As := []) (rest := []) (pc := 23) hX (c_X9_layShares g m a0 a1 a3 a4 a5 a7 a8 a10 a11 un sg mn ti dr rd op v ra o (by first | assumption | omega) (by first | assumption | omega) (hf c16_6b)) (CV.of mw747 mw748 mw32 mw52 mw749 ⟨rfl, by decide +kernel, by decide +kernel, by decide +kernel⟩ (T := TX9) (N := 16) rfl) (Nat.le_of_ble_eq_true rfl) (Nat.le_of_ble_eq_true rfl) (Nat.le_of_ble_eq_true rfl) (Nat.le_of_ble_eq_true rfl) 0 rfl [0, 1, 2, 3] (by decide +kernel) rfl rfl rfl (Nat.le_of_ble_eq_true rfl) dX9_shared_23 (fun wz wnz hq8 => ?_)
      obtain ⟨rfl, rfl⟩ := hq8
      refine j_ws (ws2 := [(m, .inr (9, [.ref a0, .ref a1, .int (nI un), .ref a3, .ref a4, .ref a5, .int (nI sg), .ref a7, .ref a8, .int (nI mn), .ref a10, .ref a11, .int (nI ((RM v o).2.2.1)), .int (DM v o), .int (nI ((RM v o).2.2.2.1)), .int ((RM v o).2.2.2.2)])), (a0, .inl (gI g, 60, .inl (nowF v))), (a10, .inl (gI g, 18, .inl ((RM v o).1))), (a11, .inl (gI g, 14, .inl (oI ((RM v o).2.1))))]) rfl ?_
      have hTY := RM_TY (o := o) hv ho
      have hTY1 := hTY.1
      refine j_aload_n (pc := 26) hX dX9_shared_26 0 rfl ?_
      refine j_iconst (v := 1) (pc := 27) hX dX9_shared_27 (by decide) ?_
      refine j_callVI (n := 1) (As := [.int 1]) (rest := []) (pc := 28) hX (c_X9_setsMarked g m a0 a1 a3 a4 a5 a7 a8 a10 a11 un sg mn ((RM v o).2.2.1) (DM v o) ((RM v o).2.2.2.1) ((RM v o).2.2.2.2) v 1 (by first | assumption | omega)) (CV.of mw732 mw733 mw28 mw52 mw734 ⟨rfl, by decide +kernel, by decide +kernel, by decide +kernel⟩ (T := TX9) (N := 16) rfl) (Nat.le_of_ble_eq_true rfl) (Nat.le_of_ble_eq_true rfl) (Nat.le_of_ble_eq_true rfl) (Nat.le_of_ble_eq_true rfl) 0 rfl [0, 1] (by decide +kernel) rfl rfl rfl (Nat.le_of_ble_eq_true rfl) dX9_shared_28 (fun r9 wz hq10 => ?_)
      obtain ⟨rfl, rfl⟩ := hq10
      refine j_ws (ws2 := [(m, .inr (9, [.ref a0, .ref a1, .int (nI un), .ref a3, .ref a4, .ref a5, .int (nI sg), .ref a7, .ref a8, .int (nI mn), .ref a10, .ref a11, .int (nI ((RM v o).2.2.1)), .int (DM v o), .int (nI ((RM v o).2.2.2.1)), .int ((RM v o).2.2.2.2)])), (a0, .inl (gI g, 60, .inl (nowF v))), (a10, .inl (gI g, 18, .inl ((RM v o).1))), (a11, .inl (gI g, 14, .inl (oI ((RM v o).2.1))))]) rfl ?_
      refine j_aload_n (pc := 31) hX dX9_shared_31 0 rfl ?_
      refine j_callVI (n := 0) (As := []) (rest := [.int (S_mk v.2.2.2.2 1 v.2.1)]) (pc := 32) hX (c_X9_tightSets g m a0 a1 a3 a4 a5 a7 a8 a10 a11 un sg mn ((RM v o).2.2.1) (DM v o) ((RM v o).2.2.2.1) ((RM v o).2.2.2.2) ((RM v o).2.1) (hTY1)) (CV.of mw750 mw751 mw33 mw52 mw752 ⟨rfl, by decide +kernel, by decide +kernel, by decide +kernel⟩ (T := TX9) (N := 16) rfl) (Nat.le_of_ble_eq_true rfl) (Nat.le_of_ble_eq_true rfl) (Nat.le_of_ble_eq_true rfl) (Nat.le_of_ble_eq_true rfl) 0 rfl [0, 3] (by decide +kernel) rfl rfl rfl (Nat.le_of_ble_eq_true rfl) dX9_shared_32 (fun r11 wz hq12 => ?_)
      obtain ⟨rfl, rfl⟩ := hq12
      refine j_ws (ws2 := [(m, .inr (9, [.ref a0, .ref a1, .int (nI un), .ref a3, .ref a4, .ref a5, .int (nI sg), .ref a7, .ref a8, .int (nI mn), .ref a10, .ref a11, .int (nI ((RM v o).2.2.1)), .int (DM v o), .int (nI ((RM v o).2.2.2.1)), .int ((RM v o).2.2.2.2)])), (a0, .inl (gI g, 60, .inl (nowF v))), (a10, .inl (gI g, 18, .inl ((RM v o).1))), (a11, .inl (gI g, 14, .inl (oI ((RM v o).2.1))))]) rfl ?_
      refine j_aload_n (pc := 35) hX dX9_shared_35 0 rfl ?_
      refine j_get (ci := 9) (pc := 36) hX inG9 rfl 13 (by decide) mw637 0 rfl rfl dX9_shared_36 ?_
      refine j_iconst (v := (-1)) (pc := 39) hX dX9_shared_39 (by decide) ?_
      refine j_ixor (pc := 40) hX dX9_shared_40 ?_
      refine j_iand (pc := 41) hX dX9_shared_41 ?_
      refine j_ior (pc := 42) hX dX9_shared_42 ?_
      refine j_top (b := shM v o) (rfl) ?_
      refine j_istore_n (lv2 := [(0, .ref m), (1, .int w0), (2, .int (shM v o))]) (pc := 43) hX dX9_shared_43 [1, 2, 0] (by decide) rfl ?_
      refine j_iconst (v := 0) (pc := 44) hX dX9_shared_44 (by decide) ?_
      refine j_istore_n (lv2 := [(0, .ref m), (1, .int w0), (2, .int (shM v o)), (3, .int 0)]) (pc := 45) hX dX9_shared_45 [1, 2, 3, 0] (by decide) rfl ?_
      refine j_iconst (v := 0) (pc := 46) hX dX9_shared_46 (by decide) ?_
      refine j_istore (lv2 := [(0, .ref m), (1, .int w0), (2, .int (shM v o)), (3, .int 0), (4, .int 0)]) (pc := 47) hX dX9_shared_47 [1, 2, 3, 4, 0] (by decide) rfl ?_
      have L49 : ∀ (d : Nat) (t : Nat), t ≤ 18 → 18 - t = d → J g x 5 0 0 49 [(0, .ref m), (1, .int w0), (2, .int (shM v o)), (3, .int (S_rs (RM v o).1 t)), (4, .int (nI t))] [] [(m, .inr (9, [.ref a0, .ref a1, .int (nI un), .ref a3, .ref a4, .ref a5, .int (nI sg), .ref a7, .ref a8, .int (nI mn), .ref a10, .ref a11, .int (nI ((RM v o).2.2.1)), .int (DM v o), .int (nI ((RM v o).2.2.2.1)), .int ((RM v o).2.2.2.2)])), (a0, .inl (gI g, 60, .inl (nowF v))), (a10, .inl (gI g, 18, .inl ((RM v o).1))), (a11, .inl (gI g, 14, .inl (oI ((RM v o).2.1))))] := by
        intro d
        induction d using Nat.strongRecOn with
        | _ d ih49 =>
          intro t ht hd49
          refine j_iload (pc := 49) hX dX9_shared_49 4 rfl ?_
          refine j_bipush (v := 18) (pc := 51) hX dX9_shared_51 (by decide) ?_
          refine j_icmp_ge (tgt := 72) (pc := 53) hX dX9_shared_53 (by decide) (fun c53_13 => ?_) (fun c53_13 => ?_)
          · skip
            have c53_13n : 18 ≤ t := (nI_leI (a := 18) (b := t) (by omega) (by omega)).mp c53_13
            have c53_13m : ¬ t < 18 := by omega
            have ht8 : t = 18 := by omega
            refine j_iload_n (pc := 72) hX dX9_shared_72 1 rfl ?_
            by_cases s73_14 : w0 = 0
            · refine j_tabIn (off := 35) (tgt := 108) (pc := 73) hX dX9_shared_73 (by rw [s73_14]; decide) (by rw [s73_14]; decide) (by rw [s73_14]; decide) (by decide) ?_
              refine j_iload_n (pc := 108) hX dX9_shared_108 2 rfl ?_
              exact j_iret (pc := 109) hX hQ dX9_shared_109 rfl ⟨(RM v o).1, (RM v o).2.1, ((RM v o).2.2.1), (DM v o), ((RM v o).2.2.2.1), ((RM v o).2.2.2.2), ((RM_TY hv ho).2.1), (by subst ht8; unfold rSharedM; (first | rw [if_pos c6_3b] | rw [if_neg c6_3b] | rw [if_neg (nbt c6_3b)]); (first | rw [if_pos c16_6b] | rw [if_neg c16_6b] | rw [if_neg (nbt c16_6b)]); try first | rfl | first | (simp (decide := true) only [jb_t, jb_f, s73_14, reduceIte, eq_self, decide_true, decide_false, Bool.and_true, Bool.true_and, Bool.and_false, Bool.false_and, Bool.and_self, not_true_eq_false, not_false_eq_true, and_true, true_and, and_false, false_and, and_self]; done) | (simp [jb_t, jb_f, s73_14]; done)), (rfl)⟩
            by_cases s73_15 : w0 = 1
            · refine j_tabIn (off := 37) (tgt := 110) (pc := 73) hX dX9_shared_73 (by rw [s73_15]; decide) (by rw [s73_15]; decide) (by rw [s73_15]; decide) (by decide) ?_
              refine j_aload_n (pc := 110) hX dX9_shared_110 0 rfl ?_
              refine j_iload_n (pc := 111) hX dX9_shared_111 2 rfl ?_
              refine j_callVI (n := 1) (As := [.int (shM v o)]) (rest := []) (pc := 112) hX (c_X9_pricesOf g m a0 a1 a3 a4 a5 a7 a8 a10 a11 un sg mn ((RM v o).2.2.1) (DM v o) ((RM v o).2.2.2.1) ((RM v o).2.2.2.2) v (shM v o) (by first | assumption | omega)) (CV.of mw783 mw784 mw39 mw52 mw785 ⟨rfl, by decide +kernel, by decide +kernel, by decide +kernel⟩ (T := TX9) (N := 16) rfl) (Nat.le_of_ble_eq_true rfl) (Nat.le_of_ble_eq_true rfl) (Nat.le_of_ble_eq_true rfl) (Nat.le_of_ble_eq_true rfl) 0 rfl [0, 1] (by decide +kernel) rfl rfl rfl (Nat.le_of_ble_eq_true rfl) dX9_shared_112 (fun r16 wz hq17 => ?_)
              obtain ⟨rfl, rfl⟩ := hq17
              refine j_ws (ws2 := [(m, .inr (9, [.ref a0, .ref a1, .int (nI un), .ref a3, .ref a4, .ref a5, .int (nI sg), .ref a7, .ref a8, .int (nI mn), .ref a10, .ref a11, .int (nI ((RM v o).2.2.1)), .int (DM v o), .int (nI ((RM v o).2.2.2.1)), .int ((RM v o).2.2.2.2)])), (a0, .inl (gI g, 60, .inl (nowF v))), (a10, .inl (gI g, 18, .inl ((RM v o).1))), (a11, .inl (gI g, 14, .inl (oI ((RM v o).2.1))))]) rfl ?_
              exact j_iret (pc := 115) hX hQ dX9_shared_115 rfl ⟨(RM v o).1, (RM v o).2.1, ((RM v o).2.2.1), (DM v o), ((RM v o).2.2.2.1), ((RM v o).2.2.2.2), ((RM_TY hv ho).2.1), (by subst ht8; unfold rSharedM; (first | rw [if_pos c6_3b] | rw [if_neg c6_3b] | rw [if_neg (nbt c6_3b)]); (first | rw [if_pos c16_6b] | rw [if_neg c16_6b] | rw [if_neg (nbt c16_6b)]); try first | rfl | first | (simp (decide := true) only [jb_t, jb_f, s73_14, s73_15, reduceIte, eq_self, decide_true, decide_false, Bool.and_true, Bool.true_and, Bool.and_false, Bool.false_and, Bool.and_self, not_true_eq_false, not_false_eq_true, and_true, true_and, and_false, false_and, and_self]; done) | (simp [jb_t, jb_f, s73_14, s73_15]; done)), (rfl)⟩
            by_cases s73_18 : w0 = 2
            · refine j_tabIn (off := 43) (tgt := 116) (pc := 73) hX dX9_shared_73 (by rw [s73_18]; decide) (by rw [s73_18]; decide) (by rw [s73_18]; decide) (by decide) ?_
              refine j_iload_n (pc := 116) hX dX9_shared_116 3 rfl ?_
              refine j_aload_n (pc := 117) hX dX9_shared_117 0 rfl ?_
              refine j_aload_n (pc := 118) hX dX9_shared_118 0 rfl ?_
              refine j_iconst (v := 1) (pc := 119) hX dX9_shared_119 (by decide) ?_
              refine j_callVI (n := 1) (As := [.int 1]) (rest := [.ref m, .int (S_rs (RM v o).1 t)]) (pc := 120) hX (c_X9_setsMarked g m a0 a1 a3 a4 a5 a7 a8 a10 a11 un sg mn ((RM v o).2.2.1) (DM v o) ((RM v o).2.2.2.1) ((RM v o).2.2.2.2) v 1 (by first | assumption | omega)) (CV.of mw732 mw733 mw28 mw52 mw734 ⟨rfl, by decide +kernel, by decide +kernel, by decide +kernel⟩ (T := TX9) (N := 16) rfl) (Nat.le_of_ble_eq_true rfl) (Nat.le_of_ble_eq_true rfl) (Nat.le_of_ble_eq_true rfl) (Nat.le_of_ble_eq_true rfl) 0 rfl [0, 1] (by decide +kernel) rfl rfl rfl (Nat.le_of_ble_eq_true rfl) dX9_shared_120 (fun r19 wz hq20 => ?_)
              obtain ⟨rfl, rfl⟩ := hq20
              refine j_ws (ws2 := [(m, .inr (9, [.ref a0, .ref a1, .int (nI un), .ref a3, .ref a4, .ref a5, .int (nI sg), .ref a7, .ref a8, .int (nI mn), .ref a10, .ref a11, .int (nI ((RM v o).2.2.1)), .int (DM v o), .int (nI ((RM v o).2.2.2.1)), .int ((RM v o).2.2.2.2)])), (a0, .inl (gI g, 60, .inl (nowF v))), (a10, .inl (gI g, 18, .inl ((RM v o).1))), (a11, .inl (gI g, 14, .inl (oI ((RM v o).2.1))))]) rfl ?_
              refine j_callVI (n := 1) (As := [.int (S_mk v.2.2.2.2 1 v.2.1)]) (rest := [.int (S_rs (RM v o).1 t)]) (pc := 123) hX (c_X9_pricesOf g m a0 a1 a3 a4 a5 a7 a8 a10 a11 un sg mn ((RM v o).2.2.1) (DM v o) ((RM v o).2.2.2.1) ((RM v o).2.2.2.2) v (S_mk v.2.2.2.2 1 v.2.1) (by first | assumption | omega)) (CV.of mw783 mw784 mw39 mw52 mw785 ⟨rfl, by decide +kernel, by decide +kernel, by decide +kernel⟩ (T := TX9) (N := 16) rfl) (Nat.le_of_ble_eq_true rfl) (Nat.le_of_ble_eq_true rfl) (Nat.le_of_ble_eq_true rfl) (Nat.le_of_ble_eq_true rfl) 0 rfl [0, 1] (by decide +kernel) rfl rfl rfl (Nat.le_of_ble_eq_true rfl) dX9_shared_123 (fun r21 wz hq22 => ?_)
              obtain ⟨rfl, rfl⟩ := hq22
              refine j_ws (ws2 := [(m, .inr (9, [.ref a0, .ref a1, .int (nI un), .ref a3, .ref a4, .ref a5, .int (nI sg), .ref a7, .ref a8, .int (nI mn), .ref a10, .ref a11, .int (nI ((RM v o).2.2.1)), .int (DM v o), .int (nI ((RM v o).2.2.2.1)), .int ((RM v o).2.2.2.2)])), (a0, .inl (gI g, 60, .inl (nowF v))), (a10, .inl (gI g, 18, .inl ((RM v o).1))), (a11, .inl (gI g, 14, .inl (oI ((RM v o).2.1))))]) rfl ?_
              refine j_iadd (pc := 126) hX dX9_shared_126 ?_
              exact j_iret (pc := 127) hX hQ dX9_shared_127 rfl ⟨(RM v o).1, (RM v o).2.1, ((RM v o).2.2.1), (DM v o), ((RM v o).2.2.2.1), ((RM v o).2.2.2.2), ((RM_TY hv ho).2.1), (by subst ht8; unfold rSharedM; (first | rw [if_pos c6_3b] | rw [if_neg c6_3b] | rw [if_neg (nbt c6_3b)]); (first | rw [if_pos c16_6b] | rw [if_neg c16_6b] | rw [if_neg (nbt c16_6b)]); try first | rfl | first | (simp (decide := true) only [jb_t, jb_f, s73_14, s73_15, s73_18, reduceIte, eq_self, decide_true, decide_false, Bool.and_true, Bool.true_and, Bool.and_false, Bool.false_and, Bool.and_self, not_true_eq_false, not_false_eq_true, and_true, true_and, and_false, false_and, and_self]; done) | (simp [jb_t, jb_f, s73_14, s73_15, s73_18]; done)), (rfl)⟩
            by_cases s73_23 : w0 = 3
            · refine j_tabIn (off := 55) (tgt := 128) (pc := 73) hX dX9_shared_73 (by rw [s73_23]; decide) (by rw [s73_23]; decide) (by rw [s73_23]; decide) (by decide) ?_
              refine j_aload_n (pc := 128) hX dX9_shared_128 0 rfl ?_
              refine j_get (ci := 9) (pc := 129) hX inG9 rfl 14 (by decide) mw638 0 rfl rfl dX9_shared_129 ?_
              exact j_iret (pc := 132) hX hQ dX9_shared_132 rfl ⟨(RM v o).1, (RM v o).2.1, ((RM v o).2.2.1), (DM v o), ((RM v o).2.2.2.1), ((RM v o).2.2.2.2), ((RM_TY hv ho).2.1), (by subst ht8; unfold rSharedM; (first | rw [if_pos c6_3b] | rw [if_neg c6_3b] | rw [if_neg (nbt c6_3b)]); (first | rw [if_pos c16_6b] | rw [if_neg c16_6b] | rw [if_neg (nbt c16_6b)]); try first | rfl | first | (simp (decide := true) only [jb_t, jb_f, s73_14, s73_15, s73_18, s73_23, reduceIte, eq_self, decide_true, decide_false, Bool.and_true, Bool.true_and, Bool.and_false, Bool.false_and, Bool.and_self, not_true_eq_false, not_false_eq_true, and_true, true_and, and_false, false_and, and_self]; done) | (simp [jb_t, jb_f, s73_14, s73_15, s73_18, s73_23]; done)), (rfl)⟩
            by_cases s73_24 : w0 = 4
            · refine j_tabIn (off := 60) (tgt := 133) (pc := 73) hX dX9_shared_73 (by rw [s73_24]; decide) (by rw [s73_24]; decide) (by rw [s73_24]; decide) (by decide) ?_
              refine j_aload_n (pc := 133) hX dX9_shared_133 0 rfl ?_
              refine j_get (ci := 9) (pc := 134) hX inG9 rfl 12 (by decide) mw636 0 rfl rfl dX9_shared_134 ?_
              exact j_iret (pc := 137) hX hQ dX9_shared_137 rfl ⟨(RM v o).1, (RM v o).2.1, ((RM v o).2.2.1), (DM v o), ((RM v o).2.2.2.1), ((RM v o).2.2.2.2), ((RM_TY hv ho).2.1), (by subst ht8; unfold rSharedM; (first | rw [if_pos c6_3b] | rw [if_neg c6_3b] | rw [if_neg (nbt c6_3b)]); (first | rw [if_pos c16_6b] | rw [if_neg c16_6b] | rw [if_neg (nbt c16_6b)]); try first | rfl | first | (simp (decide := true) only [jb_t, jb_f, s73_14, s73_15, s73_18, s73_23, s73_24, reduceIte, eq_self, decide_true, decide_false, Bool.and_true, Bool.true_and, Bool.and_false, Bool.false_and, Bool.and_self, not_true_eq_false, not_false_eq_true, and_true, true_and, and_false, false_and, and_self]; done) | (simp [jb_t, jb_f, s73_14, s73_15, s73_18, s73_23, s73_24]; done)), (rfl)⟩
            refine j_tabOut (tgt := 138) (pc := 73) hX dX9_shared_73 (jsw0_4 s73_14 s73_15 s73_18 s73_23 s73_24) (by decide) ?_
            refine j_aload_n (pc := 138) hX dX9_shared_138 0 rfl ?_
            refine j_get (ci := 9) (pc := 139) hX inG9 rfl 13 (by decide) mw637 0 rfl rfl dX9_shared_139 ?_
            refine j_callSI (n := 1) (As := [.int (DM v o)]) (rest := []) (pc := 142) hX (c_X9_size g (DM v o) ) (CS.of mw776 mw777 mw52 mw778 ⟨by decide +kernel, by decide +kernel, by decide +kernel⟩) (Nat.le_of_ble_eq_true rfl) (Nat.le_of_ble_eq_true rfl) (Nat.le_of_ble_eq_true rfl) (Nat.le_of_ble_eq_true rfl) [] (by decide +kernel) rfl rfl rfl (Nat.le_of_ble_eq_true rfl) dX9_shared_142 (fun r25 wz hq26 => ?_)
            obtain ⟨rfl, rfl⟩ := hq26
            refine j_ws (ws2 := [(m, .inr (9, [.ref a0, .ref a1, .int (nI un), .ref a3, .ref a4, .ref a5, .int (nI sg), .ref a7, .ref a8, .int (nI mn), .ref a10, .ref a11, .int (nI ((RM v o).2.2.1)), .int (DM v o), .int (nI ((RM v o).2.2.2.1)), .int ((RM v o).2.2.2.2)])), (a0, .inl (gI g, 60, .inl (nowF v))), (a10, .inl (gI g, 18, .inl ((RM v o).1))), (a11, .inl (gI g, 14, .inl (oI ((RM v o).2.1))))]) rfl ?_
            exact j_iret (pc := 145) hX hQ dX9_shared_145 rfl ⟨(RM v o).1, (RM v o).2.1, ((RM v o).2.2.1), (DM v o), ((RM v o).2.2.2.1), ((RM v o).2.2.2.2), ((RM_TY hv ho).2.1), (by subst ht8; unfold rSharedM; (first | rw [if_pos c6_3b] | rw [if_neg c6_3b] | rw [if_neg (nbt c6_3b)]); (first | rw [if_pos c16_6b] | rw [if_neg c16_6b] | rw [if_neg (nbt c16_6b)]); try first | rfl | first | (simp (decide := true) only [jb_t, jb_f, s73_14, s73_15, s73_18, s73_23, s73_24, reduceIte, eq_self, decide_true, decide_false, Bool.and_true, Bool.true_and, Bool.and_false, Bool.false_and, Bool.and_self, not_true_eq_false, not_false_eq_true, and_true, true_and, and_false, false_and, and_self]; done) | (simp [jb_t, jb_f, s73_14, s73_15, s73_18, s73_23, s73_24]; done)), (rfl)⟩
          · skip
            have c53_13n : ¬ 18 ≤ t := fun h9 => c53_13 ((nI_leI (a := 18) (b := t) (by omega) (by omega)).mpr h9)
            have c53_13m : t < 18 := by omega
            refine j_iload_n (pc := 56) hX dX9_shared_56 3 rfl ?_
            refine j_aload_n (pc := 57) hX dX9_shared_57 0 rfl ?_
            refine j_get (ci := 9) (pc := 58) hX inG9 rfl 10 (by decide) mw634 0 rfl rfl dX9_shared_58 ?_
            refine j_iload (pc := 61) hX dX9_shared_61 4 rfl ?_
            refine j_iald (pc := 63) hX 2 rfl t rfl (by omega) (by omega) dX9_shared_63 ?_
            refine j_iadd (pc := 64) hX dX9_shared_64 ?_
            refine j_istore_n (lv2 := [(0, .ref m), (1, .int w0), (2, .int (shM v o)), (3, .int ((S_rs (RM v o).1 t) + (((RM v o).1) t))), (4, .int (nI t))]) (pc := 65) hX dX9_shared_65 [1, 2, 3, 0, 4] (by decide) rfl ?_
            refine j_iinc (v := nI (t + 1)) (lv2 := [(0, .ref m), (1, .int w0), (2, .int (shM v o)), (3, .int ((S_rs (RM v o).1 t) + (((RM v o).1) t))), (4, .int (nI (t + 1)))]) (pc := 66) hX dX9_shared_66 4 rfl (nI_add t 1) [1, 2, 3, 4, 0] (by decide) rfl ?_
            refine j_goto (tgt := 49) (pc := 69) hX dX9_shared_69 (by decide) ?_
            exact j_eq (lv2 := [(0, .ref m), (1, .int w0), (2, .int (shM v o)), (3, .int (S_rs (RM v o).1 (t + 1))), (4, .int (nI (t + 1)))]) (ws2 := [(m, .inr (9, [.ref a0, .ref a1, .int (nI un), .ref a3, .ref a4, .ref a5, .int (nI sg), .ref a7, .ref a8, .int (nI mn), .ref a10, .ref a11, .int (nI ((RM v o).2.2.1)), .int (DM v o), .int (nI ((RM v o).2.2.2.1)), .int ((RM v o).2.2.2.2)])), (a0, .inl (gI g, 60, .inl (nowF v))), (a10, .inl (gI g, 18, .inl ((RM v o).1))), (a11, .inl (gI g, 14, .inl (oI ((RM v o).2.1))))]) (by first | rfl | first | (simp only [jb_t, jb_f, c6_3, c6_3b, c16_6, c16_6b, c53_13, c53_13n, c53_13m, reduceIte, eq_self, decide_true, decide_false, Bool.and_true, Bool.true_and, Bool.and_false, Bool.false_and, Bool.and_self, not_true_eq_false, not_false_eq_true, and_true, true_and, and_false, false_and, and_self]; done) | (simp [jb_t, jb_f, c6_3, c6_3b, c16_6, c16_6b, c53_13, c53_13n, c53_13m]; done)) (by first | rfl | first | (simp only [jb_t, jb_f, c6_3, c6_3b, c16_6, c16_6b, c53_13, c53_13n, c53_13m, reduceIte, eq_self, decide_true, decide_false, Bool.and_true, Bool.true_and, Bool.and_false, Bool.false_and, Bool.and_self, not_true_eq_false, not_false_eq_true, and_true, true_and, and_false, false_and, and_self]; done) | (simp [jb_t, jb_f, c6_3, c6_3b, c16_6, c16_6b, c53_13, c53_13n, c53_13m]; done)) (ih49 _ (by omega) (t + 1) (by omega) rfl)
      exact j_eq (lv2 := [(0, .ref m), (1, .int w0), (2, .int (shM v o)), (3, .int (S_rs (RM v o).1 0)), (4, .int (nI 0))]) (ws2 := [(m, .inr (9, [.ref a0, .ref a1, .int (nI un), .ref a3, .ref a4, .ref a5, .int (nI sg), .ref a7, .ref a8, .int (nI mn), .ref a10, .ref a11, .int (nI ((RM v o).2.2.1)), .int (DM v o), .int (nI ((RM v o).2.2.2.1)), .int ((RM v o).2.2.2.2)])), (a0, .inl (gI g, 60, .inl (nowF v))), (a10, .inl (gI g, 18, .inl ((RM v o).1))), (a11, .inl (gI g, 14, .inl (oI ((RM v o).2.1))))]) (rfl) (rfl) (L49 _ 0 (by omega) rfl)
    · skip
      have c16_6b : (hasM v) = false := jb_0.mp c16_6
      refine j_bipush (v := (-5)) (pc := 19) hX dX9_shared_19 (by decide) ?_
      exact j_iret (pc := 21) hX hQ dX9_shared_21 rfl ⟨ra, o, ti, dr, rd, op, (ho), (by unfold rSharedM; (first | rw [if_pos c6_3b] | rw [if_neg c6_3b] | rw [if_neg (nbt c6_3b)]); (first | rw [if_pos c16_6b] | rw [if_neg c16_6b] | rw [if_neg (nbt c16_6b)]); try first | rfl | first | (simp only [jb_t, jb_f, reduceIte, eq_self, decide_true, decide_false, Bool.and_true, Bool.true_and, Bool.and_false, Bool.false_and, Bool.and_self, not_true_eq_false, not_false_eq_true, and_true, true_and, and_false, false_and, and_self]; done) | (simp [jb_t, jb_f]; done)), (rfl)⟩
  · skip
    have c6_3b : (S_in w0 0 5) = false := jb_0.mp c6_3
    refine j_bipush (v := (-2)) (pc := 9) hX dX9_shared_9 (by decide) ?_
    exact j_iret (pc := 11) hX hQ dX9_shared_11 rfl ⟨ra, o, ti, dr, rd, op, (ho), (by unfold rSharedM; (first | rw [if_pos c6_3b] | rw [if_neg c6_3b] | rw [if_neg (nbt c6_3b)]); try first | rfl | first | (simp only [jb_t, jb_f, reduceIte, eq_self, decide_true, decide_false, Bool.and_true, Bool.true_and, Bool.and_false, Bool.false_and, Bool.and_self, not_true_eq_false, not_false_eq_true, and_true, true_and, and_false, false_and, and_self]; done) | (simp [jb_t, jb_f]; done)), (rfl)⟩

