/-! CoverShares: what the queries answer, by the class's own loops -/
def hasC (v : StT) : Bool := S_has v.2.2.1 v.2.2.2.2 v.1 v.2.1
def qSh (v : StT) (z : SHT) (j : Nat) (w : Int32) : Int32 := if hasC v = true then (if w = 3 then (aLL v z).2.2.2.2.2.2.2.1 j else if w = 4 then jb (bt (aLL v z).2.2.2.1 j) else if w = 5 then (aLL v z).2.2.2.2.2.2.2.2.1 j else jb (bt (aLL v z).2.2.2.2.2.1 j)) else -5
def rOfSet (v : StT) (z : SHT) (k w : Int32) : Int32 := if S_is v.2.1 k = true then (if w = 0 then v.2.2.1 (kN k) else if w = 1 then v.2.2.2.1 (kN k) else if w = 2 then v.2.2.2.2 (kN k) else if w = 3 then qSh v z (kN k) w else if w = 4 then qSh v z (kN k) w else if w = 5 then qSh v z (kN k) w else if w = 6 then qSh v z (kN k) w else if w = 7 then S_alone v.2.2.1 v.2.2.2.2 v.1 v.2.1 (kN k) else -2) else -1
def qTh (v : StT) (z : SHT) (t : Nat) : Int32 := if hasC v = true then (aLL v z).2.2.2.2.2.2.1 t else -5
def okTh (t : Int32) : Bool := decide (¬ t < 0 ∧ t < 18)
theorem okTh_t {t : Int32} (h : okTh t = true) : ∃ i : Nat, i < 18 ∧ t = nI i := by
  obtain ⟨h1, h2⟩ := of_decide_eq_true h
  obtain ⟨i, hi, rfl⟩ := nI_of h1
  exact ⟨i, (nI_ltI (a := i) (b := 18) hi (by decide)).mp h2, rfl⟩
def rOfThing (v : StT) (z : SHT) (t w : Int32) : Int32 := if okTh t = true then (if w = 0 then jb (bt v.1 (kN t)) else if w = 1 then S_sw v.2.2.1 (kN t) v.2.1 else if w = 2 then qTh v z (kN t) else -2) else -1
def rCount (v : StT) (n c : Nat) (w : Int32) : Int32 := if w = 0 then nI v.2.1 else if w = 1 then v.1 else if w = 2 then jb (hasC v) else if w = 3 then S_most v.2.2.1 v.2.2.2.2 v.1 v.2.1 18 else if w = 4 then nI n else if w = 5 then nI c else -2
def shC (v : StT) (z : SHT) : Int32 := S_mk v.2.2.2.2 1 v.2.1 ||| ((aLL v z).2.2.2.1 &&& ((aLL v z).2.2.2.2.2.1 ^^^ (-1)))
def rShared (v : StT) (z : SHT) (w : Int32) : Int32 := if w < 0 then -2 else if w ≤ 5 then (if hasC v = true then (if w = 0 then shC v z else if w = 1 then S_sum v.2.2.2.1 (shC v z) v.2.1 else if w = 2 then S_rs (aLL v z).2.2.2.2.2.2.1 18 + S_sum v.2.2.2.1 (S_mk v.2.2.2.2 1 v.2.1) v.2.1 else if w = 3 then nI (aLL v z).2.2.1 else if w = 4 then nI (aLL v z).2.2.2.2.1 else popC (aLL v z).2.2.2.2.2.1) else -5) else -2
def gR (v : StT) : Int32 × Int32 := gCh v 14 (gS0 v)
def rGreedy (v : StT) (w : Int32) : Int32 := if w < 0 then -2 else if w ≤ 2 then (if hasC v = true then (if w = 0 then (gR v).1 else if w = 1 then S_sum v.2.2.2.1 (gR v).1 v.2.1 else (gR v).2) else -5) else -2
def rLeast (v : StT) (z : WT) (w : Int32) : Int32 := if w < 0 then -2 else if w ≤ 1 then (if hasC v = true then (if w = 0 then (fL v z (wN v z)).1 else (fL v z (wN v z)).2) else -5) else -2
def rCovers (v : StT) (z : WT) (x : Int32) : Int32 := if x < 0 then -2 else if x ≤ 7000 then nI (cU v z x (wN v z)) else -2
def rDearest (v : StT) (z : WT) (h : Nat → Int32) (w : Int32) : Int32 := if w < 0 then -2 else if w ≤ 1 then (if hasC v = true then (if v.1 = 0 then -6 else if w = 0 then (fD v (fM1 v z h (wN v z)) 18).1 else (fD v (fM1 v z h (wN v z)) 18).2) else -5) else -2

set_option maxHeartbeats 4000000 in
set_option maxRecDepth 100000 in
theorem c_X8_ofSetBy (g : jG) (ax : Nat) (q : adT) (h : Nat) (sl : Nat) (p : Nat) (s : Nat) (gr : Nat) (e : Nat) (v : StT) (s1 : Nat) (s2 : Nat) (s3 : Nat) (s4 : Nat) (z : SHT) (j : Nat) (w0 : Int32) (hv : v.2.1 ≤ 14) (hj : j < v.2.1) : jMI g yX8_ofSetByShares cX8_ofSetByShares 3 .int 5 108 [.ref ax, .int (nI j), .int w0] [(ax, .inr (8, [.ref q.1, .ref h, .ref sl, .ref p, .ref s, .ref gr, .ref e])), (q.1, .inr (6, [.int v.1, .int (nI v.2.1), .ref q.2.1, .ref q.2.2.1, .ref q.2.2.2])), (q.2.1, .inl (gI g, 14, .inl v.2.2.1)), (q.2.2.1, .inl (gI g, 14, .inl v.2.2.2.1)), (q.2.2.2, .inl (gI g, 14, .inl v.2.2.2.2)), (s, .inr (4, [.int z.1, .int z.2.1, .int (nI z.2.2.1), .int z.2.2.2.1, .int (nI z.2.2.2.2.1), .int z.2.2.2.2.2.1, .ref s1, .ref s2, .ref s3, .ref s4])), (s1, .inl (gI g, 18, .inl z.2.2.2.2.2.2.1)), (s2, .inl (gI g, 14, .inl z.2.2.2.2.2.2.2.1)), (s3, .inl (gI g, 14, .inl z.2.2.2.2.2.2.2.2.1)), (s4, .inl (gI g, 14, .inl (oI z.2.2.2.2.2.2.2.2.2)))] (fun rz wz => ∃ z1 : SHT, rz = qSh v z j w0 ∧ wz = [(ax, .inr (8, [.ref q.1, .ref h, .ref sl, .ref p, .ref s, .ref gr, .ref e])), (q.1, .inr (6, [.int v.1, .int (nI v.2.1), .ref q.2.1, .ref q.2.2.1, .ref q.2.2.2])), (q.2.1, .inl (gI g, 14, .inl v.2.2.1)), (q.2.2.1, .inl (gI g, 14, .inl v.2.2.2.1)), (q.2.2.2, .inl (gI g, 14, .inl v.2.2.2.2)), (s, .inr (4, [.int z1.1, .int z1.2.1, .int (nI z1.2.2.1), .int z1.2.2.2.1, .int (nI z1.2.2.2.2.1), .int z1.2.2.2.2.2.1, .ref s1, .ref s2, .ref s3, .ref s4])), (s1, .inl (gI g, 18, .inl z1.2.2.2.2.2.2.1)), (s2, .inl (gI g, 14, .inl z1.2.2.2.2.2.2.2.1)), (s3, .inl (gI g, 14, .inl z1.2.2.2.2.2.2.2.2.1)), (s4, .inl (gI g, 14, .inl (oI z1.2.2.2.2.2.2.2.2.2)))]) := by
  refine jMI.intro (by decide +kernel) (Nat.le_of_ble_eq_true rfl) (fun x hX hQ => ?_)
  refine j_lv (lv2 := [(0, .ref ax), (1, .int (nI j)), (2, .int w0)]) rfl ?_
  refine j_aload_n (pc := 0) hX dX8_ofSetByShares_0 0 rfl ?_
  refine j_get (ci := 8) (pc := 1) hX inG8 rfl 0 (by decide) mw210 0 rfl rfl dX8_ofSetByShares_1 ?_
  refine j_callVI (n := 0) (As := []) (rest := []) (pc := 4) hX (c_X6_hasCover g q.1 q.2.1 q.2.2.1 q.2.2.2 v.1 v.2.1 v.2.2.1 v.2.2.2.1 v.2.2.2.2 (by first | assumption | omega)) (CV.of mw251 mw252 mw253 mw14 mw254 ⟨rfl, by decide +kernel, by decide +kernel, by decide +kernel⟩ (T := TX6) (N := 5) rfl) (Nat.le_of_ble_eq_true rfl) (Nat.le_of_ble_eq_true rfl) (Nat.le_of_ble_eq_true rfl) (Nat.le_of_ble_eq_true rfl) 1 rfl [1, 2, 3, 4] (by decide +kernel) rfl rfl rfl (Nat.le_of_ble_eq_true rfl) dX8_ofSetByShares_4 (fun r1 wz hq2 => ?_)
  obtain ⟨rfl, rfl⟩ := hq2
  refine j_ws (ws2 := [(ax, .inr (8, [.ref q.1, .ref h, .ref sl, .ref p, .ref s, .ref gr, .ref e])), (q.1, .inr (6, [.int v.1, .int (nI v.2.1), .ref q.2.1, .ref q.2.2.1, .ref q.2.2.2])), (q.2.1, .inl (gI g, 14, .inl v.2.2.1)), (q.2.2.1, .inl (gI g, 14, .inl v.2.2.2.1)), (q.2.2.2, .inl (gI g, 14, .inl v.2.2.2.2)), (s, .inr (4, [.int z.1, .int z.2.1, .int (nI z.2.2.1), .int z.2.2.2.1, .int (nI z.2.2.2.2.1), .int z.2.2.2.2.2.1, .ref s1, .ref s2, .ref s3, .ref s4])), (s1, .inl (gI g, 18, .inl z.2.2.2.2.2.2.1)), (s2, .inl (gI g, 14, .inl z.2.2.2.2.2.2.2.1)), (s3, .inl (gI g, 14, .inl z.2.2.2.2.2.2.2.2.1)), (s4, .inl (gI g, 14, .inl (oI z.2.2.2.2.2.2.2.2.2)))]) rfl ?_
  refine j_if_ne (tgt := 13) (pc := 7) hX dX8_ofSetByShares_7 (by decide) (fun c7_3 => ?_) (fun c7_3 => ?_)
  · skip
    have c7_3b : (S_has v.2.2.1 v.2.2.2.2 v.1 v.2.1) = true := jb_1.mp c7_3
    refine j_aload_n (pc := 13) hX dX8_ofSetByShares_13 0 rfl ?_
    refine j_get (ci := 8) (pc := 14) hX inG8 rfl 4 (by decide) mw214 0 rfl rfl dX8_ofSetByShares_14 ?_
    refine j_aload_n (pc := 17) hX dX8_ofSetByShares_17 0 rfl ?_
    refine j_get (ci := 8) (pc := 18) hX inG8 rfl 0 (by decide) mw210 0 rfl rfl dX8_ofSetByShares_18 ?_
    refine j_callVV (n := 1) (As := [.ref q.1]) (rest := []) (pc := 21) hX (c_X4_raiseAll g s s1 s2 s3 s4 z q v (by first | assumption | omega)) (CV.of mw305 mw306 mw307 mw18 mw308 ⟨rfl, by decide +kernel, by decide +kernel, by decide +kernel⟩ (T := TX4) (N := 10) rfl) (Nat.le_of_ble_eq_true rfl) (Nat.le_of_ble_eq_true rfl) (Nat.le_of_ble_eq_true rfl) (Nat.le_of_ble_eq_true rfl) 5 rfl [5, 6, 7, 8, 9, 1, 2, 3, 4] (by decide +kernel) rfl rfl rfl (Nat.le_of_ble_eq_true rfl) dX8_ofSetByShares_21 (fun wz wnz hq5 => ?_)
    obtain ⟨rfl, rfl⟩ := hq5
    refine j_ws (ws2 := [(ax, .inr (8, [.ref q.1, .ref h, .ref sl, .ref p, .ref s, .ref gr, .ref e])), (q.1, .inr (6, [.int v.1, .int (nI v.2.1), .ref q.2.1, .ref q.2.2.1, .ref q.2.2.2])), (q.2.1, .inl (gI g, 14, .inl v.2.2.1)), (q.2.2.1, .inl (gI g, 14, .inl v.2.2.2.1)), (q.2.2.2, .inl (gI g, 14, .inl v.2.2.2.2)), (s, .inr (4, [.int ((aLL v z).1), .int ((aLL v z).2.1), .int (nI ((aLL v z).2.2.1)), .int ((aLL v z).2.2.2.1), .int (nI ((aLL v z).2.2.2.2.1)), .int ((aLL v z).2.2.2.2.2.1), .ref s1, .ref s2, .ref s3, .ref s4])), (s1, .inl (gI g, 18, .inl ((aLL v z).2.2.2.2.2.2.1))), (s2, .inl (gI g, 14, .inl ((aLL v z).2.2.2.2.2.2.2.1))), (s3, .inl (gI g, 14, .inl ((aLL v z).2.2.2.2.2.2.2.2.1))), (s4, .inl (gI g, 14, .inl (oI ((aLL v z).2.2.2.2.2.2.2.2.2))))]) rfl ?_
    refine j_iload_n (pc := 24) hX dX8_ofSetByShares_24 2 rfl ?_
    by_cases s25_6 : w0 = 3
    · refine j_tabIn (off := 27) (tgt := 52) (pc := 25) hX dX8_ofSetByShares_25 (by rw [s25_6]; decide) (by rw [s25_6]; decide) (by rw [s25_6]; decide) (by decide) ?_
      refine j_aload_n (pc := 52) hX dX8_ofSetByShares_52 0 rfl ?_
      refine j_get (ci := 8) (pc := 53) hX inG8 rfl 4 (by decide) mw214 0 rfl rfl dX8_ofSetByShares_53 ?_
      refine j_getN (ci := 4) (pc := 56) hX inG4 rfl 7 (by decide) mw138 5 rfl rfl dX8_ofSetByShares_56 ?_
      refine j_iload_n (pc := 59) hX dX8_ofSetByShares_59 1 rfl ?_
      refine j_iald (pc := 60) hX 7 rfl j rfl (by omega) (by omega) dX8_ofSetByShares_60 ?_
      exact j_iret (pc := 61) hX hQ dX8_ofSetByShares_61 rfl ⟨(aLL v z), (by first | rfl | first | (simp (decide := true) only [jb_t, jb_f, qSh, hasC, c7_3, c7_3b, s25_6, reduceIte, eq_self, decide_true, decide_false, Bool.and_true, Bool.true_and, Bool.and_false, Bool.false_and, Bool.and_self, not_true_eq_false, not_false_eq_true, and_true, true_and, and_false, false_and, and_self]; done) | (simp [jb_t, jb_f, qSh, hasC, c7_3, c7_3b, s25_6]; done)), (rfl)⟩
    by_cases s25_7 : w0 = 4
    · refine j_tabIn (off := 37) (tgt := 62) (pc := 25) hX dX8_ofSetByShares_25 (by rw [s25_7]; decide) (by rw [s25_7]; decide) (by rw [s25_7]; decide) (by decide) ?_
      refine j_aload_n (pc := 62) hX dX8_ofSetByShares_62 0 rfl ?_
      refine j_get (ci := 8) (pc := 63) hX inG8 rfl 4 (by decide) mw214 0 rfl rfl dX8_ofSetByShares_63 ?_
      refine j_getN (ci := 4) (pc := 66) hX inG4 rfl 3 (by decide) mw130 5 rfl rfl dX8_ofSetByShares_66 ?_
      refine j_iload_n (pc := 69) hX dX8_ofSetByShares_69 1 rfl ?_
      refine j_callSI (n := 2) (As := [.int ((aLL v z).2.2.2.1), .int (nI j)]) (rest := []) (pc := 70) hX (c_X8_has g ((aLL v z).2.2.2.1) j (by first | assumption | omega)) (CS.of mw331 mw272 mw13 mw273 ⟨by decide +kernel, by decide +kernel, by decide +kernel⟩) (Nat.le_of_ble_eq_true rfl) (Nat.le_of_ble_eq_true rfl) (Nat.le_of_ble_eq_true rfl) (Nat.le_of_ble_eq_true rfl) [] (by decide +kernel) rfl rfl rfl (Nat.le_of_ble_eq_true rfl) dX8_ofSetByShares_70 (fun r8 wz hq9 => ?_)
      obtain ⟨rfl, rfl⟩ := hq9
      refine j_ws (ws2 := [(ax, .inr (8, [.ref q.1, .ref h, .ref sl, .ref p, .ref s, .ref gr, .ref e])), (q.1, .inr (6, [.int v.1, .int (nI v.2.1), .ref q.2.1, .ref q.2.2.1, .ref q.2.2.2])), (q.2.1, .inl (gI g, 14, .inl v.2.2.1)), (q.2.2.1, .inl (gI g, 14, .inl v.2.2.2.1)), (q.2.2.2, .inl (gI g, 14, .inl v.2.2.2.2)), (s, .inr (4, [.int ((aLL v z).1), .int ((aLL v z).2.1), .int (nI ((aLL v z).2.2.1)), .int ((aLL v z).2.2.2.1), .int (nI ((aLL v z).2.2.2.2.1)), .int ((aLL v z).2.2.2.2.2.1), .ref s1, .ref s2, .ref s3, .ref s4])), (s1, .inl (gI g, 18, .inl ((aLL v z).2.2.2.2.2.2.1))), (s2, .inl (gI g, 14, .inl ((aLL v z).2.2.2.2.2.2.2.1))), (s3, .inl (gI g, 14, .inl ((aLL v z).2.2.2.2.2.2.2.2.1))), (s4, .inl (gI g, 14, .inl (oI ((aLL v z).2.2.2.2.2.2.2.2.2))))]) rfl ?_
      refine j_if_eq (tgt := 80) (pc := 73) hX dX8_ofSetByShares_73 (by decide) (fun c73_10 => ?_) (fun c73_10 => ?_)
      · skip
        have c73_10b : (bt ((aLL v z).2.2.2.1) j) = false := jb_0.mp c73_10
        refine j_iconst (v := 0) (pc := 80) hX dX8_ofSetByShares_80 (by decide) ?_
        exact j_iret (pc := 81) hX hQ dX8_ofSetByShares_81 rfl ⟨(aLL v z), (by first | rfl | first | (simp (decide := true) only [jb_t, jb_f, qSh, hasC, c7_3, c7_3b, s25_6, s25_7, c73_10, c73_10b, reduceIte, eq_self, decide_true, decide_false, Bool.and_true, Bool.true_and, Bool.and_false, Bool.false_and, Bool.and_self, not_true_eq_false, not_false_eq_true, and_true, true_and, and_false, false_and, and_self]; done) | (simp [jb_t, jb_f, qSh, hasC, c7_3, c7_3b, s25_6, s25_7, c73_10, c73_10b]; done)), (rfl)⟩
      · skip
        have c73_10b : (bt ((aLL v z).2.2.2.1) j) = true := jb_1.mp c73_10
        refine j_iconst (v := 1) (pc := 76) hX dX8_ofSetByShares_76 (by decide) ?_
        refine j_goto (tgt := 81) (pc := 77) hX dX8_ofSetByShares_77 (by decide) ?_
        exact j_iret (pc := 81) hX hQ dX8_ofSetByShares_81 rfl ⟨(aLL v z), (by first | rfl | first | (simp (decide := true) only [jb_t, jb_f, qSh, hasC, c7_3, c7_3b, s25_6, s25_7, c73_10, c73_10b, reduceIte, eq_self, decide_true, decide_false, Bool.and_true, Bool.true_and, Bool.and_false, Bool.false_and, Bool.and_self, not_true_eq_false, not_false_eq_true, and_true, true_and, and_false, false_and, and_self]; done) | (simp [jb_t, jb_f, qSh, hasC, c7_3, c7_3b, s25_6, s25_7, c73_10, c73_10b]; done)), (rfl)⟩
    by_cases s25_11 : w0 = 5
    · refine j_tabIn (off := 57) (tgt := 82) (pc := 25) hX dX8_ofSetByShares_25 (by rw [s25_11]; decide) (by rw [s25_11]; decide) (by rw [s25_11]; decide) (by decide) ?_
      refine j_aload_n (pc := 82) hX dX8_ofSetByShares_82 0 rfl ?_
      refine j_get (ci := 8) (pc := 83) hX inG8 rfl 4 (by decide) mw214 0 rfl rfl dX8_ofSetByShares_83 ?_
      refine j_getN (ci := 4) (pc := 86) hX inG4 rfl 8 (by decide) mw140 5 rfl rfl dX8_ofSetByShares_86 ?_
      refine j_iload_n (pc := 89) hX dX8_ofSetByShares_89 1 rfl ?_
      refine j_iald (pc := 90) hX 8 rfl j rfl (by omega) (by omega) dX8_ofSetByShares_90 ?_
      exact j_iret (pc := 91) hX hQ dX8_ofSetByShares_91 rfl ⟨(aLL v z), (by first | rfl | first | (simp (decide := true) only [jb_t, jb_f, qSh, hasC, c7_3, c7_3b, s25_6, s25_7, s25_11, reduceIte, eq_self, decide_true, decide_false, Bool.and_true, Bool.true_and, Bool.and_false, Bool.false_and, Bool.and_self, not_true_eq_false, not_false_eq_true, and_true, true_and, and_false, false_and, and_self]; done) | (simp [jb_t, jb_f, qSh, hasC, c7_3, c7_3b, s25_6, s25_7, s25_11]; done)), (rfl)⟩
    refine j_tabOut (tgt := 92) (pc := 25) hX dX8_ofSetByShares_25 (jsw3_5 s25_6 s25_7 s25_11) (by decide) ?_
    refine j_aload_n (pc := 92) hX dX8_ofSetByShares_92 0 rfl ?_
    refine j_get (ci := 8) (pc := 93) hX inG8 rfl 4 (by decide) mw214 0 rfl rfl dX8_ofSetByShares_93 ?_
    refine j_getN (ci := 4) (pc := 96) hX inG4 rfl 5 (by decide) mw134 5 rfl rfl dX8_ofSetByShares_96 ?_
    refine j_iload_n (pc := 99) hX dX8_ofSetByShares_99 1 rfl ?_
    refine j_callSI (n := 2) (As := [.int ((aLL v z).2.2.2.2.2.1), .int (nI j)]) (rest := []) (pc := 100) hX (c_X8_has g ((aLL v z).2.2.2.2.2.1) j (by first | assumption | omega)) (CS.of mw331 mw272 mw13 mw273 ⟨by decide +kernel, by decide +kernel, by decide +kernel⟩) (Nat.le_of_ble_eq_true rfl) (Nat.le_of_ble_eq_true rfl) (Nat.le_of_ble_eq_true rfl) (Nat.le_of_ble_eq_true rfl) [] (by decide +kernel) rfl rfl rfl (Nat.le_of_ble_eq_true rfl) dX8_ofSetByShares_100 (fun r12 wz hq13 => ?_)
    obtain ⟨rfl, rfl⟩ := hq13
    refine j_ws (ws2 := [(ax, .inr (8, [.ref q.1, .ref h, .ref sl, .ref p, .ref s, .ref gr, .ref e])), (q.1, .inr (6, [.int v.1, .int (nI v.2.1), .ref q.2.1, .ref q.2.2.1, .ref q.2.2.2])), (q.2.1, .inl (gI g, 14, .inl v.2.2.1)), (q.2.2.1, .inl (gI g, 14, .inl v.2.2.2.1)), (q.2.2.2, .inl (gI g, 14, .inl v.2.2.2.2)), (s, .inr (4, [.int ((aLL v z).1), .int ((aLL v z).2.1), .int (nI ((aLL v z).2.2.1)), .int ((aLL v z).2.2.2.1), .int (nI ((aLL v z).2.2.2.2.1)), .int ((aLL v z).2.2.2.2.2.1), .ref s1, .ref s2, .ref s3, .ref s4])), (s1, .inl (gI g, 18, .inl ((aLL v z).2.2.2.2.2.2.1))), (s2, .inl (gI g, 14, .inl ((aLL v z).2.2.2.2.2.2.2.1))), (s3, .inl (gI g, 14, .inl ((aLL v z).2.2.2.2.2.2.2.2.1))), (s4, .inl (gI g, 14, .inl (oI ((aLL v z).2.2.2.2.2.2.2.2.2))))]) rfl ?_
    refine j_if_eq (tgt := 110) (pc := 103) hX dX8_ofSetByShares_103 (by decide) (fun c103_14 => ?_) (fun c103_14 => ?_)
    · skip
      have c103_14b : (bt ((aLL v z).2.2.2.2.2.1) j) = false := jb_0.mp c103_14
      refine j_iconst (v := 0) (pc := 110) hX dX8_ofSetByShares_110 (by decide) ?_
      exact j_iret (pc := 111) hX hQ dX8_ofSetByShares_111 rfl ⟨(aLL v z), (by first | rfl | first | (simp (decide := true) only [jb_t, jb_f, qSh, hasC, c7_3, c7_3b, s25_6, s25_7, s25_11, c103_14, c103_14b, reduceIte, eq_self, decide_true, decide_false, Bool.and_true, Bool.true_and, Bool.and_false, Bool.false_and, Bool.and_self, not_true_eq_false, not_false_eq_true, and_true, true_and, and_false, false_and, and_self]; done) | (simp [jb_t, jb_f, qSh, hasC, c7_3, c7_3b, s25_6, s25_7, s25_11, c103_14, c103_14b]; done)), (rfl)⟩
    · skip
      have c103_14b : (bt ((aLL v z).2.2.2.2.2.1) j) = true := jb_1.mp c103_14
      refine j_iconst (v := 1) (pc := 106) hX dX8_ofSetByShares_106 (by decide) ?_
      refine j_goto (tgt := 111) (pc := 107) hX dX8_ofSetByShares_107 (by decide) ?_
      exact j_iret (pc := 111) hX hQ dX8_ofSetByShares_111 rfl ⟨(aLL v z), (by first | rfl | first | (simp (decide := true) only [jb_t, jb_f, qSh, hasC, c7_3, c7_3b, s25_6, s25_7, s25_11, c103_14, c103_14b, reduceIte, eq_self, decide_true, decide_false, Bool.and_true, Bool.true_and, Bool.and_false, Bool.false_and, Bool.and_self, not_true_eq_false, not_false_eq_true, and_true, true_and, and_false, false_and, and_self]; done) | (simp [jb_t, jb_f, qSh, hasC, c7_3, c7_3b, s25_6, s25_7, s25_11, c103_14, c103_14b]; done)), (rfl)⟩
  · skip
    have c7_3b : (S_has v.2.2.1 v.2.2.2.2 v.1 v.2.1) = false := jb_0.mp c7_3
    refine j_bipush (v := (-5)) (pc := 10) hX dX8_ofSetByShares_10 (by decide) ?_
    exact j_iret (pc := 12) hX hQ dX8_ofSetByShares_12 rfl ⟨z, (by first | rfl | first | (simp only [jb_t, jb_f, qSh, hasC, c7_3, c7_3b, reduceIte, eq_self, decide_true, decide_false, Bool.and_true, Bool.true_and, Bool.and_false, Bool.false_and, Bool.and_self, not_true_eq_false, not_false_eq_true, and_true, true_and, and_false, false_and, and_self]; done) | (simp [jb_t, jb_f, qSh, hasC, c7_3, c7_3b]; done)), (rfl)⟩

set_option maxHeartbeats 4000000 in
set_option maxRecDepth 100000 in
theorem c_X8_ofSet (g : jG) (ax : Nat) (q : adT) (h : Nat) (sl : Nat) (p : Nat) (s : Nat) (gr : Nat) (e : Nat) (v : StT) (s1 : Nat) (s2 : Nat) (s3 : Nat) (s4 : Nat) (z : SHT) (k : Int32) (w0 : Int32) (hv : v.2.1 ≤ 14) : jMI g yX8_ofSet cX8_ofSet 3 .int 6 130 [.ref ax, .int k, .int w0] [(ax, .inr (8, [.ref q.1, .ref h, .ref sl, .ref p, .ref s, .ref gr, .ref e])), (q.1, .inr (6, [.int v.1, .int (nI v.2.1), .ref q.2.1, .ref q.2.2.1, .ref q.2.2.2])), (q.2.1, .inl (gI g, 14, .inl v.2.2.1)), (q.2.2.1, .inl (gI g, 14, .inl v.2.2.2.1)), (q.2.2.2, .inl (gI g, 14, .inl v.2.2.2.2)), (s, .inr (4, [.int z.1, .int z.2.1, .int (nI z.2.2.1), .int z.2.2.2.1, .int (nI z.2.2.2.2.1), .int z.2.2.2.2.2.1, .ref s1, .ref s2, .ref s3, .ref s4])), (s1, .inl (gI g, 18, .inl z.2.2.2.2.2.2.1)), (s2, .inl (gI g, 14, .inl z.2.2.2.2.2.2.2.1)), (s3, .inl (gI g, 14, .inl z.2.2.2.2.2.2.2.2.1)), (s4, .inl (gI g, 14, .inl (oI z.2.2.2.2.2.2.2.2.2)))] (fun rz wz => ∃ z1 : SHT, rz = rOfSet v z k w0 ∧ wz = [(ax, .inr (8, [.ref q.1, .ref h, .ref sl, .ref p, .ref s, .ref gr, .ref e])), (q.1, .inr (6, [.int v.1, .int (nI v.2.1), .ref q.2.1, .ref q.2.2.1, .ref q.2.2.2])), (q.2.1, .inl (gI g, 14, .inl v.2.2.1)), (q.2.2.1, .inl (gI g, 14, .inl v.2.2.2.1)), (q.2.2.2, .inl (gI g, 14, .inl v.2.2.2.2)), (s, .inr (4, [.int z1.1, .int z1.2.1, .int (nI z1.2.2.1), .int z1.2.2.2.1, .int (nI z1.2.2.2.2.1), .int z1.2.2.2.2.2.1, .ref s1, .ref s2, .ref s3, .ref s4])), (s1, .inl (gI g, 18, .inl z1.2.2.2.2.2.2.1)), (s2, .inl (gI g, 14, .inl z1.2.2.2.2.2.2.2.1)), (s3, .inl (gI g, 14, .inl z1.2.2.2.2.2.2.2.2.1)), (s4, .inl (gI g, 14, .inl (oI z1.2.2.2.2.2.2.2.2.2)))]) := by
  refine jMI.intro (by decide +kernel) (Nat.le_of_ble_eq_true rfl) (fun x hX hQ => ?_)
  refine j_lv (lv2 := [(0, .ref ax), (1, .int k), (2, .int w0)]) rfl ?_
  refine j_aload_n (pc := 0) hX dX8_ofSet_0 0 rfl ?_
  refine j_get (ci := 8) (pc := 1) hX inG8 rfl 0 (by decide) mw210 0 rfl rfl dX8_ofSet_1 ?_
  refine j_iload_n (pc := 4) hX dX8_ofSet_4 1 rfl ?_
  refine j_callVI (n := 1) (As := [.int k]) (rest := []) (pc := 5) hX (c_X6_hasSet g q.1 q.2.1 q.2.2.1 q.2.2.2 v.1 v.2.1 v.2.2.1 v.2.2.2.1 v.2.2.2.2 k (by first | assumption | omega)) (CV.of mw298 mw299 mw300 mw14 mw301 ⟨rfl, by decide +kernel, by decide +kernel, by decide +kernel⟩ (T := TX6) (N := 5) rfl) (Nat.le_of_ble_eq_true rfl) (Nat.le_of_ble_eq_true rfl) (Nat.le_of_ble_eq_true rfl) (Nat.le_of_ble_eq_true rfl) 1 rfl [1, 2, 3, 4] (by decide +kernel) rfl rfl rfl (Nat.le_of_ble_eq_true rfl) dX8_ofSet_5 (fun r1 wz hq2 => ?_)
  obtain ⟨rfl, rfl⟩ := hq2
  refine j_ws (ws2 := [(ax, .inr (8, [.ref q.1, .ref h, .ref sl, .ref p, .ref s, .ref gr, .ref e])), (q.1, .inr (6, [.int v.1, .int (nI v.2.1), .ref q.2.1, .ref q.2.2.1, .ref q.2.2.2])), (q.2.1, .inl (gI g, 14, .inl v.2.2.1)), (q.2.2.1, .inl (gI g, 14, .inl v.2.2.2.1)), (q.2.2.2, .inl (gI g, 14, .inl v.2.2.2.2)), (s, .inr (4, [.int z.1, .int z.2.1, .int (nI z.2.2.1), .int z.2.2.2.1, .int (nI z.2.2.2.2.1), .int z.2.2.2.2.2.1, .ref s1, .ref s2, .ref s3, .ref s4])), (s1, .inl (gI g, 18, .inl z.2.2.2.2.2.2.1)), (s2, .inl (gI g, 14, .inl z.2.2.2.2.2.2.2.1)), (s3, .inl (gI g, 14, .inl z.2.2.2.2.2.2.2.2.1)), (s4, .inl (gI g, 14, .inl (oI z.2.2.2.2.2.2.2.2.2)))]) rfl ?_
  refine j_if_ne (tgt := 13) (pc := 8) hX dX8_ofSet_8 (by decide) (fun c8_3 => ?_) (fun c8_3 => ?_)
  · skip
    have c8_3b : (S_is v.2.1 k) = true := jb_1.mp c8_3
    obtain ⟨j, hj, rfl⟩ := S_is_t hv c8_3b
    refine j_iload_n (pc := 13) hX dX8_ofSet_13 2 rfl ?_
    by_cases s14_4 : w0 = 0
    · refine j_tabIn (off := 46) (tgt := 60) (pc := 14) hX dX8_ofSet_14 (by rw [s14_4]; decide) (by rw [s14_4]; decide) (by rw [s14_4]; decide) (by decide) ?_
      refine j_aload_n (pc := 60) hX dX8_ofSet_60 0 rfl ?_
      refine j_get (ci := 8) (pc := 61) hX inG8 rfl 0 (by decide) mw210 0 rfl rfl dX8_ofSet_61 ?_
      refine j_getN (ci := 6) (pc := 64) hX inG6 rfl 2 (by decide) mw52 1 rfl rfl dX8_ofSet_64 ?_
      refine j_iload_n (pc := 67) hX dX8_ofSet_67 1 rfl ?_
      refine j_iald (pc := 68) hX 2 rfl j rfl (by omega) (by omega) dX8_ofSet_68 ?_
      exact j_iret (pc := 69) hX hQ dX8_ofSet_69 rfl ⟨z, (by first | rfl | first | (simp (decide := true) only [jb_t, jb_f, rOfSet, kN_nI (show j < 100 by omega), c8_3, c8_3b, s14_4, reduceIte, eq_self, decide_true, decide_false, Bool.and_true, Bool.true_and, Bool.and_false, Bool.false_and, Bool.and_self, not_true_eq_false, not_false_eq_true, and_true, true_and, and_false, false_and, and_self]; done) | (simp [jb_t, jb_f, rOfSet, kN_nI (show j < 100 by omega), c8_3, c8_3b, s14_4]; done)), (rfl)⟩
    by_cases s14_5 : w0 = 1
    · refine j_tabIn (off := 56) (tgt := 70) (pc := 14) hX dX8_ofSet_14 (by rw [s14_5]; decide) (by rw [s14_5]; decide) (by rw [s14_5]; decide) (by decide) ?_
      refine j_aload_n (pc := 70) hX dX8_ofSet_70 0 rfl ?_
      refine j_get (ci := 8) (pc := 71) hX inG8 rfl 0 (by decide) mw210 0 rfl rfl dX8_ofSet_71 ?_
      refine j_getN (ci := 6) (pc := 74) hX inG6 rfl 3 (by decide) mw56 1 rfl rfl dX8_ofSet_74 ?_
      refine j_iload_n (pc := 77) hX dX8_ofSet_77 1 rfl ?_
      refine j_iald (pc := 78) hX 3 rfl j rfl (by omega) (by omega) dX8_ofSet_78 ?_
      exact j_iret (pc := 79) hX hQ dX8_ofSet_79 rfl ⟨z, (by first | rfl | first | (simp (decide := true) only [jb_t, jb_f, rOfSet, kN_nI (show j < 100 by omega), c8_3, c8_3b, s14_4, s14_5, reduceIte, eq_self, decide_true, decide_false, Bool.and_true, Bool.true_and, Bool.and_false, Bool.false_and, Bool.and_self, not_true_eq_false, not_false_eq_true, and_true, true_and, and_false, false_and, and_self]; done) | (simp [jb_t, jb_f, rOfSet, kN_nI (show j < 100 by omega), c8_3, c8_3b, s14_4, s14_5]; done)), (rfl)⟩
    by_cases s14_6 : w0 = 2
    · refine j_tabIn (off := 66) (tgt := 80) (pc := 14) hX dX8_ofSet_14 (by rw [s14_6]; decide) (by rw [s14_6]; decide) (by rw [s14_6]; decide) (by decide) ?_
      refine j_aload_n (pc := 80) hX dX8_ofSet_80 0 rfl ?_
      refine j_get (ci := 8) (pc := 81) hX inG8 rfl 0 (by decide) mw210 0 rfl rfl dX8_ofSet_81 ?_
      refine j_getN (ci := 6) (pc := 84) hX inG6 rfl 4 (by decide) mw62 1 rfl rfl dX8_ofSet_84 ?_
      refine j_iload_n (pc := 87) hX dX8_ofSet_87 1 rfl ?_
      refine j_iald (pc := 88) hX 4 rfl j rfl (by omega) (by omega) dX8_ofSet_88 ?_
      exact j_iret (pc := 89) hX hQ dX8_ofSet_89 rfl ⟨z, (by first | rfl | first | (simp (decide := true) only [jb_t, jb_f, rOfSet, kN_nI (show j < 100 by omega), c8_3, c8_3b, s14_4, s14_5, s14_6, reduceIte, eq_self, decide_true, decide_false, Bool.and_true, Bool.true_and, Bool.and_false, Bool.false_and, Bool.and_self, not_true_eq_false, not_false_eq_true, and_true, true_and, and_false, false_and, and_self]; done) | (simp [jb_t, jb_f, rOfSet, kN_nI (show j < 100 by omega), c8_3, c8_3b, s14_4, s14_5, s14_6]; done)), (rfl)⟩
    by_cases s14_7 : w0 = 3
    · refine j_tabIn (off := 76) (tgt := 90) (pc := 14) hX dX8_ofSet_14 (by rw [s14_7]; decide) (by rw [s14_7]; decide) (by rw [s14_7]; decide) (by decide) ?_
      refine j_aload_n (pc := 90) hX dX8_ofSet_90 0 rfl ?_
      refine j_iload_n (pc := 91) hX dX8_ofSet_91 1 rfl ?_
      refine j_iload_n (pc := 92) hX dX8_ofSet_92 2 rfl ?_
      refine j_callVI (n := 2) (As := [.int (nI j), .int w0]) (rest := []) (pc := 93) hX (c_X8_ofSetBy g ax q h sl p s gr e v s1 s2 s3 s4 z j w0 (by first | assumption | omega) (by first | assumption | omega)) (CV.of mw302 mw303 mw1 mw13 mw304 ⟨rfl, by decide +kernel, by decide +kernel, by decide +kernel⟩ (T := TX8) (N := 7) rfl) (Nat.le_of_ble_eq_true rfl) (Nat.le_of_ble_eq_true rfl) (Nat.le_of_ble_eq_true rfl) (Nat.le_of_ble_eq_true rfl) 0 rfl [0, 1, 2, 3, 4, 5, 6, 7, 8, 9] (by decide +kernel) rfl rfl rfl (Nat.le_of_ble_eq_true rfl) dX8_ofSet_93 (fun r9 wz hq10 => ?_)
      obtain ⟨z1_8, rfl, rfl⟩ := hq10
      refine j_ws (ws2 := [(ax, .inr (8, [.ref q.1, .ref h, .ref sl, .ref p, .ref s, .ref gr, .ref e])), (q.1, .inr (6, [.int v.1, .int (nI v.2.1), .ref q.2.1, .ref q.2.2.1, .ref q.2.2.2])), (q.2.1, .inl (gI g, 14, .inl v.2.2.1)), (q.2.2.1, .inl (gI g, 14, .inl v.2.2.2.1)), (q.2.2.2, .inl (gI g, 14, .inl v.2.2.2.2)), (s, .inr (4, [.int z1_8.1, .int z1_8.2.1, .int (nI z1_8.2.2.1), .int z1_8.2.2.2.1, .int (nI z1_8.2.2.2.2.1), .int z1_8.2.2.2.2.2.1, .ref s1, .ref s2, .ref s3, .ref s4])), (s1, .inl (gI g, 18, .inl z1_8.2.2.2.2.2.2.1)), (s2, .inl (gI g, 14, .inl z1_8.2.2.2.2.2.2.2.1)), (s3, .inl (gI g, 14, .inl z1_8.2.2.2.2.2.2.2.2.1)), (s4, .inl (gI g, 14, .inl (oI z1_8.2.2.2.2.2.2.2.2.2)))]) rfl ?_
      exact j_iret (pc := 96) hX hQ dX8_ofSet_96 rfl ⟨z1_8, (by first | rfl | first | (simp (decide := true) only [jb_t, jb_f, rOfSet, kN_nI (show j < 100 by omega), c8_3, c8_3b, s14_4, s14_5, s14_6, s14_7, reduceIte, eq_self, decide_true, decide_false, Bool.and_true, Bool.true_and, Bool.and_false, Bool.false_and, Bool.and_self, not_true_eq_false, not_false_eq_true, and_true, true_and, and_false, false_and, and_self]; done) | (simp [jb_t, jb_f, rOfSet, kN_nI (show j < 100 by omega), c8_3, c8_3b, s14_4, s14_5, s14_6, s14_7]; done)), (rfl)⟩
    by_cases s14_11 : w0 = 4
    · refine j_tabIn (off := 76) (tgt := 90) (pc := 14) hX dX8_ofSet_14 (by rw [s14_11]; decide) (by rw [s14_11]; decide) (by rw [s14_11]; decide) (by decide) ?_
      refine j_aload_n (pc := 90) hX dX8_ofSet_90 0 rfl ?_
      refine j_iload_n (pc := 91) hX dX8_ofSet_91 1 rfl ?_
      refine j_iload_n (pc := 92) hX dX8_ofSet_92 2 rfl ?_
      refine j_callVI (n := 2) (As := [.int (nI j), .int w0]) (rest := []) (pc := 93) hX (c_X8_ofSetBy g ax q h sl p s gr e v s1 s2 s3 s4 z j w0 (by first | assumption | omega) (by first | assumption | omega)) (CV.of mw302 mw303 mw1 mw13 mw304 ⟨rfl, by decide +kernel, by decide +kernel, by decide +kernel⟩ (T := TX8) (N := 7) rfl) (Nat.le_of_ble_eq_true rfl) (Nat.le_of_ble_eq_true rfl) (Nat.le_of_ble_eq_true rfl) (Nat.le_of_ble_eq_true rfl) 0 rfl [0, 1, 2, 3, 4, 5, 6, 7, 8, 9] (by decide +kernel) rfl rfl rfl (Nat.le_of_ble_eq_true rfl) dX8_ofSet_93 (fun r13 wz hq14 => ?_)
      obtain ⟨z1_12, rfl, rfl⟩ := hq14
      refine j_ws (ws2 := [(ax, .inr (8, [.ref q.1, .ref h, .ref sl, .ref p, .ref s, .ref gr, .ref e])), (q.1, .inr (6, [.int v.1, .int (nI v.2.1), .ref q.2.1, .ref q.2.2.1, .ref q.2.2.2])), (q.2.1, .inl (gI g, 14, .inl v.2.2.1)), (q.2.2.1, .inl (gI g, 14, .inl v.2.2.2.1)), (q.2.2.2, .inl (gI g, 14, .inl v.2.2.2.2)), (s, .inr (4, [.int z1_12.1, .int z1_12.2.1, .int (nI z1_12.2.2.1), .int z1_12.2.2.2.1, .int (nI z1_12.2.2.2.2.1), .int z1_12.2.2.2.2.2.1, .ref s1, .ref s2, .ref s3, .ref s4])), (s1, .inl (gI g, 18, .inl z1_12.2.2.2.2.2.2.1)), (s2, .inl (gI g, 14, .inl z1_12.2.2.2.2.2.2.2.1)), (s3, .inl (gI g, 14, .inl z1_12.2.2.2.2.2.2.2.2.1)), (s4, .inl (gI g, 14, .inl (oI z1_12.2.2.2.2.2.2.2.2.2)))]) rfl ?_
      exact j_iret (pc := 96) hX hQ dX8_ofSet_96 rfl ⟨z1_12, (by first | rfl | first | (simp (decide := true) only [jb_t, jb_f, rOfSet, kN_nI (show j < 100 by omega), c8_3, c8_3b, s14_4, s14_5, s14_6, s14_7, s14_11, reduceIte, eq_self, decide_true, decide_false, Bool.and_true, Bool.true_and, Bool.and_false, Bool.false_and, Bool.and_self, not_true_eq_false, not_false_eq_true, and_true, true_and, and_false, false_and, and_self]; done) | (simp [jb_t, jb_f, rOfSet, kN_nI (show j < 100 by omega), c8_3, c8_3b, s14_4, s14_5, s14_6, s14_7, s14_11]; done)), (rfl)⟩
    by_cases s14_15 : w0 = 5
    · refine j_tabIn (off := 76) (tgt := 90) (pc := 14) hX dX8_ofSet_14 (by rw [s14_15]; decide) (by rw [s14_15]; decide) (by rw [s14_15]; decide) (by decide) ?_
      refine j_aload_n (pc := 90) hX dX8_ofSet_90 0 rfl ?_
      refine j_iload_n (pc := 91) hX dX8_ofSet_91 1 rfl ?_
      refine j_iload_n (pc := 92) hX dX8_ofSet_92 2 rfl ?_
      refine j_callVI (n := 2) (As := [.int (nI j), .int w0]) (rest := []) (pc := 93) hX (c_X8_ofSetBy g ax q h sl p s gr e v s1 s2 s3 s4 z j w0 (by first | assumption | omega) (by first | assumption | omega)) (CV.of mw302 mw303 mw1 mw13 mw304 ⟨rfl, by decide +kernel, by decide +kernel, by decide +kernel⟩ (T := TX8) (N := 7) rfl) (Nat.le_of_ble_eq_true rfl) (Nat.le_of_ble_eq_true rfl) (Nat.le_of_ble_eq_true rfl) (Nat.le_of_ble_eq_true rfl) 0 rfl [0, 1, 2, 3, 4, 5, 6, 7, 8, 9] (by decide +kernel) rfl rfl rfl (Nat.le_of_ble_eq_true rfl) dX8_ofSet_93 (fun r17 wz hq18 => ?_)
      obtain ⟨z1_16, rfl, rfl⟩ := hq18
      refine j_ws (ws2 := [(ax, .inr (8, [.ref q.1, .ref h, .ref sl, .ref p, .ref s, .ref gr, .ref e])), (q.1, .inr (6, [.int v.1, .int (nI v.2.1), .ref q.2.1, .ref q.2.2.1, .ref q.2.2.2])), (q.2.1, .inl (gI g, 14, .inl v.2.2.1)), (q.2.2.1, .inl (gI g, 14, .inl v.2.2.2.1)), (q.2.2.2, .inl (gI g, 14, .inl v.2.2.2.2)), (s, .inr (4, [.int z1_16.1, .int z1_16.2.1, .int (nI z1_16.2.2.1), .int z1_16.2.2.2.1, .int (nI z1_16.2.2.2.2.1), .int z1_16.2.2.2.2.2.1, .ref s1, .ref s2, .ref s3, .ref s4])), (s1, .inl (gI g, 18, .inl z1_16.2.2.2.2.2.2.1)), (s2, .inl (gI g, 14, .inl z1_16.2.2.2.2.2.2.2.1)), (s3, .inl (gI g, 14, .inl z1_16.2.2.2.2.2.2.2.2.1)), (s4, .inl (gI g, 14, .inl (oI z1_16.2.2.2.2.2.2.2.2.2)))]) rfl ?_
      exact j_iret (pc := 96) hX hQ dX8_ofSet_96 rfl ⟨z1_16, (by first | rfl | first | (simp (decide := true) only [jb_t, jb_f, rOfSet, kN_nI (show j < 100 by omega), c8_3, c8_3b, s14_4, s14_5, s14_6, s14_7, s14_11, s14_15, reduceIte, eq_self, decide_true, decide_false, Bool.and_true, Bool.true_and, Bool.and_false, Bool.false_and, Bool.and_self, not_true_eq_false, not_false_eq_true, and_true, true_and, and_false, false_and, and_self]; done) | (simp [jb_t, jb_f, rOfSet, kN_nI (show j < 100 by omega), c8_3, c8_3b, s14_4, s14_5, s14_6, s14_7, s14_11, s14_15]; done)), (rfl)⟩
    by_cases s14_19 : w0 = 6
    · refine j_tabIn (off := 76) (tgt := 90) (pc := 14) hX dX8_ofSet_14 (by rw [s14_19]; decide) (by rw [s14_19]; decide) (by rw [s14_19]; decide) (by decide) ?_
      refine j_aload_n (pc := 90) hX dX8_ofSet_90 0 rfl ?_
      refine j_iload_n (pc := 91) hX dX8_ofSet_91 1 rfl ?_
      refine j_iload_n (pc := 92) hX dX8_ofSet_92 2 rfl ?_
      refine j_callVI (n := 2) (As := [.int (nI j), .int w0]) (rest := []) (pc := 93) hX (c_X8_ofSetBy g ax q h sl p s gr e v s1 s2 s3 s4 z j w0 (by first | assumption | omega) (by first | assumption | omega)) (CV.of mw302 mw303 mw1 mw13 mw304 ⟨rfl, by decide +kernel, by decide +kernel, by decide +kernel⟩ (T := TX8) (N := 7) rfl) (Nat.le_of_ble_eq_true rfl) (Nat.le_of_ble_eq_true rfl) (Nat.le_of_ble_eq_true rfl) (Nat.le_of_ble_eq_true rfl) 0 rfl [0, 1, 2, 3, 4, 5, 6, 7, 8, 9] (by decide +kernel) rfl rfl rfl (Nat.le_of_ble_eq_true rfl) dX8_ofSet_93 (fun r21 wz hq22 => ?_)
      obtain ⟨z1_20, rfl, rfl⟩ := hq22
      refine j_ws (ws2 := [(ax, .inr (8, [.ref q.1, .ref h, .ref sl, .ref p, .ref s, .ref gr, .ref e])), (q.1, .inr (6, [.int v.1, .int (nI v.2.1), .ref q.2.1, .ref q.2.2.1, .ref q.2.2.2])), (q.2.1, .inl (gI g, 14, .inl v.2.2.1)), (q.2.2.1, .inl (gI g, 14, .inl v.2.2.2.1)), (q.2.2.2, .inl (gI g, 14, .inl v.2.2.2.2)), (s, .inr (4, [.int z1_20.1, .int z1_20.2.1, .int (nI z1_20.2.2.1), .int z1_20.2.2.2.1, .int (nI z1_20.2.2.2.2.1), .int z1_20.2.2.2.2.2.1, .ref s1, .ref s2, .ref s3, .ref s4])), (s1, .inl (gI g, 18, .inl z1_20.2.2.2.2.2.2.1)), (s2, .inl (gI g, 14, .inl z1_20.2.2.2.2.2.2.2.1)), (s3, .inl (gI g, 14, .inl z1_20.2.2.2.2.2.2.2.2.1)), (s4, .inl (gI g, 14, .inl (oI z1_20.2.2.2.2.2.2.2.2.2)))]) rfl ?_
      exact j_iret (pc := 96) hX hQ dX8_ofSet_96 rfl ⟨z1_20, (by first | rfl | first | (simp (decide := true) only [jb_t, jb_f, rOfSet, kN_nI (show j < 100 by omega), c8_3, c8_3b, s14_4, s14_5, s14_6, s14_7, s14_11, s14_15, s14_19, reduceIte, eq_self, decide_true, decide_false, Bool.and_true, Bool.true_and, Bool.and_false, Bool.false_and, Bool.and_self, not_true_eq_false, not_false_eq_true, and_true, true_and, and_false, false_and, and_self]; done) | (simp [jb_t, jb_f, rOfSet, kN_nI (show j < 100 by omega), c8_3, c8_3b, s14_4, s14_5, s14_6, s14_7, s14_11, s14_15, s14_19]; done)), (rfl)⟩
    by_cases s14_23 : w0 = 7
    · refine j_tabIn (off := 83) (tgt := 97) (pc := 14) hX dX8_ofSet_14 (by rw [s14_23]; decide) (by rw [s14_23]; decide) (by rw [s14_23]; decide) (by decide) ?_
      refine j_aload_n (pc := 97) hX dX8_ofSet_97 0 rfl ?_
      refine j_get (ci := 8) (pc := 98) hX inG8 rfl 0 (by decide) mw210 0 rfl rfl dX8_ofSet_98 ?_
      refine j_iload_n (pc := 101) hX dX8_ofSet_101 1 rfl ?_
      refine j_callVI (n := 1) (As := [.int (nI j)]) (rest := []) (pc := 102) hX (c_X6_neededAlone g q.1 q.2.1 q.2.2.1 q.2.2.2 v.1 v.2.1 v.2.2.1 v.2.2.2.1 v.2.2.2.2 j (by first | assumption | omega) (by first | assumption | omega)) (CV.of mw332 mw333 mw334 mw14 mw335 ⟨rfl, by decide +kernel, by decide +kernel, by decide +kernel⟩ (T := TX6) (N := 5) rfl) (Nat.le_of_ble_eq_true rfl) (Nat.le_of_ble_eq_true rfl) (Nat.le_of_ble_eq_true rfl) (Nat.le_of_ble_eq_true rfl) 1 rfl [1, 2, 3, 4] (by decide +kernel) rfl rfl rfl (Nat.le_of_ble_eq_true rfl) dX8_ofSet_102 (fun r24 wz hq25 => ?_)
      obtain ⟨rfl, rfl⟩ := hq25
      refine j_ws (ws2 := [(ax, .inr (8, [.ref q.1, .ref h, .ref sl, .ref p, .ref s, .ref gr, .ref e])), (q.1, .inr (6, [.int v.1, .int (nI v.2.1), .ref q.2.1, .ref q.2.2.1, .ref q.2.2.2])), (q.2.1, .inl (gI g, 14, .inl v.2.2.1)), (q.2.2.1, .inl (gI g, 14, .inl v.2.2.2.1)), (q.2.2.2, .inl (gI g, 14, .inl v.2.2.2.2)), (s, .inr (4, [.int z.1, .int z.2.1, .int (nI z.2.2.1), .int z.2.2.2.1, .int (nI z.2.2.2.2.1), .int z.2.2.2.2.2.1, .ref s1, .ref s2, .ref s3, .ref s4])), (s1, .inl (gI g, 18, .inl z.2.2.2.2.2.2.1)), (s2, .inl (gI g, 14, .inl z.2.2.2.2.2.2.2.1)), (s3, .inl (gI g, 14, .inl z.2.2.2.2.2.2.2.2.1)), (s4, .inl (gI g, 14, .inl (oI z.2.2.2.2.2.2.2.2.2)))]) rfl ?_
      exact j_iret (pc := 105) hX hQ dX8_ofSet_105 rfl ⟨z, (by first | rfl | first | (simp (decide := true) only [jb_t, jb_f, rOfSet, kN_nI (show j < 100 by omega), c8_3, c8_3b, s14_4, s14_5, s14_6, s14_7, s14_11, s14_15, s14_19, s14_23, reduceIte, eq_self, decide_true, decide_false, Bool.and_true, Bool.true_and, Bool.and_false, Bool.false_and, Bool.and_self, not_true_eq_false, not_false_eq_true, and_true, true_and, and_false, false_and, and_self]; done) | (simp [jb_t, jb_f, rOfSet, kN_nI (show j < 100 by omega), c8_3, c8_3b, s14_4, s14_5, s14_6, s14_7, s14_11, s14_15, s14_19, s14_23]; done)), (rfl)⟩
    refine j_tabOut (tgt := 106) (pc := 14) hX dX8_ofSet_14 (jsw0_7 s14_4 s14_5 s14_6 s14_7 s14_11 s14_15 s14_19 s14_23) (by decide) ?_
    refine j_bipush (v := (-2)) (pc := 106) hX dX8_ofSet_106 (by decide) ?_
    exact j_iret (pc := 108) hX hQ dX8_ofSet_108 rfl ⟨z, (by first | rfl | first | (simp (decide := true) only [jb_t, jb_f, rOfSet, kN_nI (show j < 100 by omega), c8_3, c8_3b, s14_4, s14_5, s14_6, s14_7, s14_11, s14_15, s14_19, s14_23, reduceIte, eq_self, decide_true, decide_false, Bool.and_true, Bool.true_and, Bool.and_false, Bool.false_and, Bool.and_self, not_true_eq_false, not_false_eq_true, and_true, true_and, and_false, false_and, and_self]; done) | (simp [jb_t, jb_f, rOfSet, kN_nI (show j < 100 by omega), c8_3, c8_3b, s14_4, s14_5, s14_6, s14_7, s14_11, s14_15, s14_19, s14_23]; done)), (rfl)⟩
  · skip
    have c8_3b : (S_is v.2.1 k) = false := jb_0.mp c8_3
    refine j_iconst (v := (-1)) (pc := 11) hX dX8_ofSet_11 (by decide) ?_
    exact j_iret (pc := 12) hX hQ dX8_ofSet_12 rfl ⟨z, (by first | rfl | first | (simp only [jb_t, jb_f, rOfSet, c8_3, c8_3b, reduceIte, eq_self, decide_true, decide_false, Bool.and_true, Bool.true_and, Bool.and_false, Bool.false_and, Bool.and_self, not_true_eq_false, not_false_eq_true, and_true, true_and, and_false, false_and, and_self]; done) | (simp [jb_t, jb_f, rOfSet, c8_3, c8_3b]; done)), (rfl)⟩

set_option maxHeartbeats 4000000 in
set_option maxRecDepth 100000 in
theorem c_X8_shareOf (g : jG) (ax : Nat) (q : adT) (h : Nat) (sl : Nat) (p : Nat) (s : Nat) (gr : Nat) (e : Nat) (v : StT) (s1 : Nat) (s2 : Nat) (s3 : Nat) (s4 : Nat) (z : SHT) (j : Nat) (hv : v.2.1 ≤ 14) (hj : j < 18) : jMI g yX8_shareOf cX8_shareOf 2 .int 5 108 [.ref ax, .int (nI j)] [(ax, .inr (8, [.ref q.1, .ref h, .ref sl, .ref p, .ref s, .ref gr, .ref e])), (q.1, .inr (6, [.int v.1, .int (nI v.2.1), .ref q.2.1, .ref q.2.2.1, .ref q.2.2.2])), (q.2.1, .inl (gI g, 14, .inl v.2.2.1)), (q.2.2.1, .inl (gI g, 14, .inl v.2.2.2.1)), (q.2.2.2, .inl (gI g, 14, .inl v.2.2.2.2)), (s, .inr (4, [.int z.1, .int z.2.1, .int (nI z.2.2.1), .int z.2.2.2.1, .int (nI z.2.2.2.2.1), .int z.2.2.2.2.2.1, .ref s1, .ref s2, .ref s3, .ref s4])), (s1, .inl (gI g, 18, .inl z.2.2.2.2.2.2.1)), (s2, .inl (gI g, 14, .inl z.2.2.2.2.2.2.2.1)), (s3, .inl (gI g, 14, .inl z.2.2.2.2.2.2.2.2.1)), (s4, .inl (gI g, 14, .inl (oI z.2.2.2.2.2.2.2.2.2)))] (fun rz wz => ∃ z1 : SHT, rz = qTh v z j ∧ wz = [(ax, .inr (8, [.ref q.1, .ref h, .ref sl, .ref p, .ref s, .ref gr, .ref e])), (q.1, .inr (6, [.int v.1, .int (nI v.2.1), .ref q.2.1, .ref q.2.2.1, .ref q.2.2.2])), (q.2.1, .inl (gI g, 14, .inl v.2.2.1)), (q.2.2.1, .inl (gI g, 14, .inl v.2.2.2.1)), (q.2.2.2, .inl (gI g, 14, .inl v.2.2.2.2)), (s, .inr (4, [.int z1.1, .int z1.2.1, .int (nI z1.2.2.1), .int z1.2.2.2.1, .int (nI z1.2.2.2.2.1), .int z1.2.2.2.2.2.1, .ref s1, .ref s2, .ref s3, .ref s4])), (s1, .inl (gI g, 18, .inl z1.2.2.2.2.2.2.1)), (s2, .inl (gI g, 14, .inl z1.2.2.2.2.2.2.2.1)), (s3, .inl (gI g, 14, .inl z1.2.2.2.2.2.2.2.2.1)), (s4, .inl (gI g, 14, .inl (oI z1.2.2.2.2.2.2.2.2.2)))]) := by
  refine jMI.intro (by decide +kernel) (Nat.le_of_ble_eq_true rfl) (fun x hX hQ => ?_)
  refine j_lv (lv2 := [(0, .ref ax), (1, .int (nI j))]) rfl ?_
  refine j_aload_n (pc := 0) hX dX8_shareOf_0 0 rfl ?_
  refine j_get (ci := 8) (pc := 1) hX inG8 rfl 0 (by decide) mw210 0 rfl rfl dX8_shareOf_1 ?_
  refine j_callVI (n := 0) (As := []) (rest := []) (pc := 4) hX (c_X6_hasCover g q.1 q.2.1 q.2.2.1 q.2.2.2 v.1 v.2.1 v.2.2.1 v.2.2.2.1 v.2.2.2.2 (by first | assumption | omega)) (CV.of mw251 mw252 mw253 mw14 mw254 ⟨rfl, by decide +kernel, by decide +kernel, by decide +kernel⟩ (T := TX6) (N := 5) rfl) (Nat.le_of_ble_eq_true rfl) (Nat.le_of_ble_eq_true rfl) (Nat.le_of_ble_eq_true rfl) (Nat.le_of_ble_eq_true rfl) 1 rfl [1, 2, 3, 4] (by decide +kernel) rfl rfl rfl (Nat.le_of_ble_eq_true rfl) dX8_shareOf_4 (fun r1 wz hq2 => ?_)
  obtain ⟨rfl, rfl⟩ := hq2
  refine j_ws (ws2 := [(ax, .inr (8, [.ref q.1, .ref h, .ref sl, .ref p, .ref s, .ref gr, .ref e])), (q.1, .inr (6, [.int v.1, .int (nI v.2.1), .ref q.2.1, .ref q.2.2.1, .ref q.2.2.2])), (q.2.1, .inl (gI g, 14, .inl v.2.2.1)), (q.2.2.1, .inl (gI g, 14, .inl v.2.2.2.1)), (q.2.2.2, .inl (gI g, 14, .inl v.2.2.2.2)), (s, .inr (4, [.int z.1, .int z.2.1, .int (nI z.2.2.1), .int z.2.2.2.1, .int (nI z.2.2.2.2.1), .int z.2.2.2.2.2.1, .ref s1, .ref s2, .ref s3, .ref s4])), (s1, .inl (gI g, 18, .inl z.2.2.2.2.2.2.1)), (s2, .inl (gI g, 14, .inl z.2.2.2.2.2.2.2.1)), (s3, .inl (gI g, 14, .inl z.2.2.2.2.2.2.2.2.1)), (s4, .inl (gI g, 14, .inl (oI z.2.2.2.2.2.2.2.2.2)))]) rfl ?_
  refine j_if_ne (tgt := 13) (pc := 7) hX dX8_shareOf_7 (by decide) (fun c7_3 => ?_) (fun c7_3 => ?_)
  · skip
    have c7_3b : (S_has v.2.2.1 v.2.2.2.2 v.1 v.2.1) = true := jb_1.mp c7_3
    refine j_aload_n (pc := 13) hX dX8_shareOf_13 0 rfl ?_
    refine j_get (ci := 8) (pc := 14) hX inG8 rfl 4 (by decide) mw214 0 rfl rfl dX8_shareOf_14 ?_
    refine j_aload_n (pc := 17) hX dX8_shareOf_17 0 rfl ?_
    refine j_get (ci := 8) (pc := 18) hX inG8 rfl 0 (by decide) mw210 0 rfl rfl dX8_shareOf_18 ?_
    refine j_callVV (n := 1) (As := [.ref q.1]) (rest := []) (pc := 21) hX (c_X4_raiseAll g s s1 s2 s3 s4 z q v (by first | assumption | omega)) (CV.of mw305 mw306 mw307 mw18 mw308 ⟨rfl, by decide +kernel, by decide +kernel, by decide +kernel⟩ (T := TX4) (N := 10) rfl) (Nat.le_of_ble_eq_true rfl) (Nat.le_of_ble_eq_true rfl) (Nat.le_of_ble_eq_true rfl) (Nat.le_of_ble_eq_true rfl) 5 rfl [5, 6, 7, 8, 9, 1, 2, 3, 4] (by decide +kernel) rfl rfl rfl (Nat.le_of_ble_eq_true rfl) dX8_shareOf_21 (fun wz wnz hq5 => ?_)
    obtain ⟨rfl, rfl⟩ := hq5
    refine j_ws (ws2 := [(ax, .inr (8, [.ref q.1, .ref h, .ref sl, .ref p, .ref s, .ref gr, .ref e])), (q.1, .inr (6, [.int v.1, .int (nI v.2.1), .ref q.2.1, .ref q.2.2.1, .ref q.2.2.2])), (q.2.1, .inl (gI g, 14, .inl v.2.2.1)), (q.2.2.1, .inl (gI g, 14, .inl v.2.2.2.1)), (q.2.2.2, .inl (gI g, 14, .inl v.2.2.2.2)), (s, .inr (4, [.int ((aLL v z).1), .int ((aLL v z).2.1), .int (nI ((aLL v z).2.2.1)), .int ((aLL v z).2.2.2.1), .int (nI ((aLL v z).2.2.2.2.1)), .int ((aLL v z).2.2.2.2.2.1), .ref s1, .ref s2, .ref s3, .ref s4])), (s1, .inl (gI g, 18, .inl ((aLL v z).2.2.2.2.2.2.1))), (s2, .inl (gI g, 14, .inl ((aLL v z).2.2.2.2.2.2.2.1))), (s3, .inl (gI g, 14, .inl ((aLL v z).2.2.2.2.2.2.2.2.1))), (s4, .inl (gI g, 14, .inl (oI ((aLL v z).2.2.2.2.2.2.2.2.2))))]) rfl ?_
    refine j_aload_n (pc := 24) hX dX8_shareOf_24 0 rfl ?_
    refine j_get (ci := 8) (pc := 25) hX inG8 rfl 4 (by decide) mw214 0 rfl rfl dX8_shareOf_25 ?_
    refine j_getN (ci := 4) (pc := 28) hX inG4 rfl 6 (by decide) mw136 5 rfl rfl dX8_shareOf_28 ?_
    refine j_iload_n (pc := 31) hX dX8_shareOf_31 1 rfl ?_
    refine j_iald (pc := 32) hX 6 rfl j rfl (by omega) (by omega) dX8_shareOf_32 ?_
    exact j_iret (pc := 33) hX hQ dX8_shareOf_33 rfl ⟨(aLL v z), (by first | rfl | first | (simp only [jb_t, jb_f, qTh, hasC, c7_3, c7_3b, reduceIte, eq_self, decide_true, decide_false, Bool.and_true, Bool.true_and, Bool.and_false, Bool.false_and, Bool.and_self, not_true_eq_false, not_false_eq_true, and_true, true_and, and_false, false_and, and_self]; done) | (simp [jb_t, jb_f, qTh, hasC, c7_3, c7_3b]; done)), (rfl)⟩
  · skip
    have c7_3b : (S_has v.2.2.1 v.2.2.2.2 v.1 v.2.1) = false := jb_0.mp c7_3
    refine j_bipush (v := (-5)) (pc := 10) hX dX8_shareOf_10 (by decide) ?_
    exact j_iret (pc := 12) hX hQ dX8_shareOf_12 rfl ⟨z, (by first | rfl | first | (simp only [jb_t, jb_f, qTh, hasC, c7_3, c7_3b, reduceIte, eq_self, decide_true, decide_false, Bool.and_true, Bool.true_and, Bool.and_false, Bool.false_and, Bool.and_self, not_true_eq_false, not_false_eq_true, and_true, true_and, and_false, false_and, and_self]; done) | (simp [jb_t, jb_f, qTh, hasC, c7_3, c7_3b]; done)), (rfl)⟩

set_option maxHeartbeats 4000000 in
set_option maxRecDepth 100000 in
theorem c_X8_ofThing (g : jG) (ax : Nat) (q : adT) (h : Nat) (sl : Nat) (p : Nat) (s : Nat) (gr : Nat) (e : Nat) (v : StT) (s1 : Nat) (s2 : Nat) (s3 : Nat) (s4 : Nat) (z : SHT) (k : Int32) (w0 : Int32) (hv : v.2.1 ≤ 14) : jMI g yX8_ofThing cX8_ofThing 3 .int 6 129 [.ref ax, .int k, .int w0] [(ax, .inr (8, [.ref q.1, .ref h, .ref sl, .ref p, .ref s, .ref gr, .ref e])), (q.1, .inr (6, [.int v.1, .int (nI v.2.1), .ref q.2.1, .ref q.2.2.1, .ref q.2.2.2])), (q.2.1, .inl (gI g, 14, .inl v.2.2.1)), (q.2.2.1, .inl (gI g, 14, .inl v.2.2.2.1)), (q.2.2.2, .inl (gI g, 14, .inl v.2.2.2.2)), (s, .inr (4, [.int z.1, .int z.2.1, .int (nI z.2.2.1), .int z.2.2.2.1, .int (nI z.2.2.2.2.1), .int z.2.2.2.2.2.1, .ref s1, .ref s2, .ref s3, .ref s4])), (s1, .inl (gI g, 18, .inl z.2.2.2.2.2.2.1)), (s2, .inl (gI g, 14, .inl z.2.2.2.2.2.2.2.1)), (s3, .inl (gI g, 14, .inl z.2.2.2.2.2.2.2.2.1)), (s4, .inl (gI g, 14, .inl (oI z.2.2.2.2.2.2.2.2.2)))] (fun rz wz => ∃ z1 : SHT, rz = rOfThing v z k w0 ∧ wz = [(ax, .inr (8, [.ref q.1, .ref h, .ref sl, .ref p, .ref s, .ref gr, .ref e])), (q.1, .inr (6, [.int v.1, .int (nI v.2.1), .ref q.2.1, .ref q.2.2.1, .ref q.2.2.2])), (q.2.1, .inl (gI g, 14, .inl v.2.2.1)), (q.2.2.1, .inl (gI g, 14, .inl v.2.2.2.1)), (q.2.2.2, .inl (gI g, 14, .inl v.2.2.2.2)), (s, .inr (4, [.int z1.1, .int z1.2.1, .int (nI z1.2.2.1), .int z1.2.2.2.1, .int (nI z1.2.2.2.2.1), .int z1.2.2.2.2.2.1, .ref s1, .ref s2, .ref s3, .ref s4])), (s1, .inl (gI g, 18, .inl z1.2.2.2.2.2.2.1)), (s2, .inl (gI g, 14, .inl z1.2.2.2.2.2.2.2.1)), (s3, .inl (gI g, 14, .inl z1.2.2.2.2.2.2.2.2.1)), (s4, .inl (gI g, 14, .inl (oI z1.2.2.2.2.2.2.2.2.2)))]) := by
  refine jMI.intro (by decide +kernel) (Nat.le_of_ble_eq_true rfl) (fun x hX hQ => ?_)
  refine j_lv (lv2 := [(0, .ref ax), (1, .int k), (2, .int w0)]) rfl ?_
  refine j_iload_n (pc := 0) hX dX8_ofThing_0 1 rfl ?_
  refine j_if_lt (tgt := 10) (pc := 1) hX dX8_ofThing_1 (by decide) (fun c1_1 => ?_) (fun c1_1 => ?_)
  · skip
    refine j_iconst (v := (-1)) (pc := 10) hX dX8_ofThing_10 (by decide) ?_
    exact j_iret (pc := 11) hX hQ dX8_ofThing_11 rfl ⟨z, (by first | rfl | first | (simp only [jb_t, jb_f, rOfThing, okTh, c1_1, reduceIte, eq_self, decide_true, decide_false, Bool.and_true, Bool.true_and, Bool.and_false, Bool.false_and, Bool.and_self, not_true_eq_false, not_false_eq_true, and_true, true_and, and_false, false_and, and_self]; done) | (simp [jb_t, jb_f, rOfThing, okTh, c1_1]; done)), (rfl)⟩
  · skip
    refine j_iload_n (pc := 4) hX dX8_ofThing_4 1 rfl ?_
    refine j_bipush (v := 18) (pc := 5) hX dX8_ofThing_5 (by decide) ?_
    refine j_icmp_lt (tgt := 12) (pc := 7) hX dX8_ofThing_7 (by decide) (fun c7_2 => ?_) (fun c7_2 => ?_)
    · skip
      have hok5 : okTh k = true := decide_eq_true ⟨c1_1, c7_2⟩
      obtain ⟨j, hj, rfl⟩ := okTh_t hok5
      refine j_iload_n (pc := 12) hX dX8_ofThing_12 2 rfl ?_
      by_cases s13_3 : w0 = 0
      · refine j_tabIn (off := 27) (tgt := 40) (pc := 13) hX dX8_ofThing_13 (by rw [s13_3]; decide) (by rw [s13_3]; decide) (by rw [s13_3]; decide) (by decide) ?_
        refine j_aload_n (pc := 40) hX dX8_ofThing_40 0 rfl ?_
        refine j_get (ci := 8) (pc := 41) hX inG8 rfl 0 (by decide) mw210 0 rfl rfl dX8_ofThing_41 ?_
        refine j_getN (ci := 6) (pc := 44) hX inG6 rfl 0 (by decide) mw41 1 rfl rfl dX8_ofThing_44 ?_
        refine j_iload_n (pc := 47) hX dX8_ofThing_47 1 rfl ?_
        refine j_callSI (n := 2) (As := [.int v.1, .int (nI j)]) (rest := []) (pc := 48) hX (c_X8_has g v.1 j (by first | assumption | omega)) (CS.of mw331 mw272 mw13 mw273 ⟨by decide +kernel, by decide +kernel, by decide +kernel⟩) (Nat.le_of_ble_eq_true rfl) (Nat.le_of_ble_eq_true rfl) (Nat.le_of_ble_eq_true rfl) (Nat.le_of_ble_eq_true rfl) [] (by decide +kernel) rfl rfl rfl (Nat.le_of_ble_eq_true rfl) dX8_ofThing_48 (fun r4 wz hq5 => ?_)
        obtain ⟨rfl, rfl⟩ := hq5
        refine j_ws (ws2 := [(ax, .inr (8, [.ref q.1, .ref h, .ref sl, .ref p, .ref s, .ref gr, .ref e])), (q.1, .inr (6, [.int v.1, .int (nI v.2.1), .ref q.2.1, .ref q.2.2.1, .ref q.2.2.2])), (q.2.1, .inl (gI g, 14, .inl v.2.2.1)), (q.2.2.1, .inl (gI g, 14, .inl v.2.2.2.1)), (q.2.2.2, .inl (gI g, 14, .inl v.2.2.2.2)), (s, .inr (4, [.int z.1, .int z.2.1, .int (nI z.2.2.1), .int z.2.2.2.1, .int (nI z.2.2.2.2.1), .int z.2.2.2.2.2.1, .ref s1, .ref s2, .ref s3, .ref s4])), (s1, .inl (gI g, 18, .inl z.2.2.2.2.2.2.1)), (s2, .inl (gI g, 14, .inl z.2.2.2.2.2.2.2.1)), (s3, .inl (gI g, 14, .inl z.2.2.2.2.2.2.2.2.1)), (s4, .inl (gI g, 14, .inl (oI z.2.2.2.2.2.2.2.2.2)))]) rfl ?_
        refine j_if_eq (tgt := 58) (pc := 51) hX dX8_ofThing_51 (by decide) (fun c51_6 => ?_) (fun c51_6 => ?_)
        · skip
          have c51_6b : (bt v.1 j) = false := jb_0.mp c51_6
          refine j_iconst (v := 0) (pc := 58) hX dX8_ofThing_58 (by decide) ?_
          exact j_iret (pc := 59) hX hQ dX8_ofThing_59 rfl ⟨z, (by first | rfl | first | (simp (decide := true) only [jb_t, jb_f, rOfThing, kN_nI (show j < 100 by omega), hok5, s13_3, c51_6, c51_6b, reduceIte, eq_self, decide_true, decide_false, Bool.and_true, Bool.true_and, Bool.and_false, Bool.false_and, Bool.and_self, not_true_eq_false, not_false_eq_true, and_true, true_and, and_false, false_and, and_self]; done) | (simp [jb_t, jb_f, rOfThing, kN_nI (show j < 100 by omega), hok5, s13_3, c51_6, c51_6b]; done)), (rfl)⟩
        · skip
          have c51_6b : (bt v.1 j) = true := jb_1.mp c51_6
          refine j_iconst (v := 1) (pc := 54) hX dX8_ofThing_54 (by decide) ?_
          refine j_goto (tgt := 59) (pc := 55) hX dX8_ofThing_55 (by decide) ?_
          exact j_iret (pc := 59) hX hQ dX8_ofThing_59 rfl ⟨z, (by first | rfl | first | (simp (decide := true) only [jb_t, jb_f, rOfThing, kN_nI (show j < 100 by omega), hok5, s13_3, c51_6, c51_6b, reduceIte, eq_self, decide_true, decide_false, Bool.and_true, Bool.true_and, Bool.and_false, Bool.false_and, Bool.and_self, not_true_eq_false, not_false_eq_true, and_true, true_and, and_false, false_and, and_self]; done) | (simp [jb_t, jb_f, rOfThing, kN_nI (show j < 100 by omega), hok5, s13_3, c51_6, c51_6b]; done)), (rfl)⟩
      by_cases s13_7 : w0 = 1
      · refine j_tabIn (off := 47) (tgt := 60) (pc := 13) hX dX8_ofThing_13 (by rw [s13_7]; decide) (by rw [s13_7]; decide) (by rw [s13_7]; decide) (by decide) ?_
        refine j_aload_n (pc := 60) hX dX8_ofThing_60 0 rfl ?_
        refine j_get (ci := 8) (pc := 61) hX inG8 rfl 0 (by decide) mw210 0 rfl rfl dX8_ofThing_61 ?_
        refine j_iload_n (pc := 64) hX dX8_ofThing_64 1 rfl ?_
        refine j_callVI (n := 1) (As := [.int (nI j)]) (rest := []) (pc := 65) hX (c_X6_setsWith g q.1 q.2.1 q.2.2.1 q.2.2.2 v.1 v.2.1 v.2.2.1 v.2.2.2.1 v.2.2.2.2 j (by first | assumption | omega) (by first | assumption | omega)) (CV.of mw349 mw279 mw280 mw14 mw281 ⟨rfl, by decide +kernel, by decide +kernel, by decide +kernel⟩ (T := TX6) (N := 5) rfl) (Nat.le_of_ble_eq_true rfl) (Nat.le_of_ble_eq_true rfl) (Nat.le_of_ble_eq_true rfl) (Nat.le_of_ble_eq_true rfl) 1 rfl [1, 2, 3, 4] (by decide +kernel) rfl rfl rfl (Nat.le_of_ble_eq_true rfl) dX8_ofThing_65 (fun r8 wz hq9 => ?_)
        obtain ⟨rfl, rfl⟩ := hq9
        refine j_ws (ws2 := [(ax, .inr (8, [.ref q.1, .ref h, .ref sl, .ref p, .ref s, .ref gr, .ref e])), (q.1, .inr (6, [.int v.1, .int (nI v.2.1), .ref q.2.1, .ref q.2.2.1, .ref q.2.2.2])), (q.2.1, .inl (gI g, 14, .inl v.2.2.1)), (q.2.2.1, .inl (gI g, 14, .inl v.2.2.2.1)), (q.2.2.2, .inl (gI g, 14, .inl v.2.2.2.2)), (s, .inr (4, [.int z.1, .int z.2.1, .int (nI z.2.2.1), .int z.2.2.2.1, .int (nI z.2.2.2.2.1), .int z.2.2.2.2.2.1, .ref s1, .ref s2, .ref s3, .ref s4])), (s1, .inl (gI g, 18, .inl z.2.2.2.2.2.2.1)), (s2, .inl (gI g, 14, .inl z.2.2.2.2.2.2.2.1)), (s3, .inl (gI g, 14, .inl z.2.2.2.2.2.2.2.2.1)), (s4, .inl (gI g, 14, .inl (oI z.2.2.2.2.2.2.2.2.2)))]) rfl ?_
        exact j_iret (pc := 68) hX hQ dX8_ofThing_68 rfl ⟨z, (by first | rfl | first | (simp (decide := true) only [jb_t, jb_f, rOfThing, kN_nI (show j < 100 by omega), hok5, s13_3, s13_7, reduceIte, eq_self, decide_true, decide_false, Bool.and_true, Bool.true_and, Bool.and_false, Bool.false_and, Bool.and_self, not_true_eq_false, not_false_eq_true, and_true, true_and, and_false, false_and, and_self]; done) | (simp [jb_t, jb_f, rOfThing, kN_nI (show j < 100 by omega), hok5, s13_3, s13_7]; done)), (rfl)⟩
      by_cases s13_10 : w0 = 2
      · refine j_tabIn (off := 56) (tgt := 69) (pc := 13) hX dX8_ofThing_13 (by rw [s13_10]; decide) (by rw [s13_10]; decide) (by rw [s13_10]; decide) (by decide) ?_
        refine j_aload_n (pc := 69) hX dX8_ofThing_69 0 rfl ?_
        refine j_iload_n (pc := 70) hX dX8_ofThing_70 1 rfl ?_
        refine j_callVI (n := 1) (As := [.int (nI j)]) (rest := []) (pc := 71) hX (c_X8_shareOf g ax q h sl p s gr e v s1 s2 s3 s4 z j (by first | assumption | omega) (by first | assumption | omega)) (CV.of mw350 mw351 mw7 mw13 mw352 ⟨rfl, by decide +kernel, by decide +kernel, by decide +kernel⟩ (T := TX8) (N := 7) rfl) (Nat.le_of_ble_eq_true rfl) (Nat.le_of_ble_eq_true rfl) (Nat.le_of_ble_eq_true rfl) (Nat.le_of_ble_eq_true rfl) 0 rfl [0, 1, 2, 3, 4, 5, 6, 7, 8, 9] (by decide +kernel) rfl rfl rfl (Nat.le_of_ble_eq_true rfl) dX8_ofThing_71 (fun r12 wz hq13 => ?_)
        obtain ⟨z1_11, rfl, rfl⟩ := hq13
        refine j_ws (ws2 := [(ax, .inr (8, [.ref q.1, .ref h, .ref sl, .ref p, .ref s, .ref gr, .ref e])), (q.1, .inr (6, [.int v.1, .int (nI v.2.1), .ref q.2.1, .ref q.2.2.1, .ref q.2.2.2])), (q.2.1, .inl (gI g, 14, .inl v.2.2.1)), (q.2.2.1, .inl (gI g, 14, .inl v.2.2.2.1)), (q.2.2.2, .inl (gI g, 14, .inl v.2.2.2.2)), (s, .inr (4, [.int z1_11.1, .int z1_11.2.1, .int (nI z1_11.2.2.1), .int z1_11.2.2.2.1, .int (nI z1_11.2.2.2.2.1), .int z1_11.2.2.2.2.2.1, .ref s1, .ref s2, .ref s3, .ref s4])), (s1, .inl (gI g, 18, .inl z1_11.2.2.2.2.2.2.1)), (s2, .inl (gI g, 14, .inl z1_11.2.2.2.2.2.2.2.1)), (s3, .inl (gI g, 14, .inl z1_11.2.2.2.2.2.2.2.2.1)), (s4, .inl (gI g, 14, .inl (oI z1_11.2.2.2.2.2.2.2.2.2)))]) rfl ?_
        exact j_iret (pc := 74) hX hQ dX8_ofThing_74 rfl ⟨z1_11, (by first | rfl | first | (simp (decide := true) only [jb_t, jb_f, rOfThing, kN_nI (show j < 100 by omega), hok5, s13_3, s13_7, s13_10, reduceIte, eq_self, decide_true, decide_false, Bool.and_true, Bool.true_and, Bool.and_false, Bool.false_and, Bool.and_self, not_true_eq_false, not_false_eq_true, and_true, true_and, and_false, false_and, and_self]; done) | (simp [jb_t, jb_f, rOfThing, kN_nI (show j < 100 by omega), hok5, s13_3, s13_7, s13_10]; done)), (rfl)⟩
      refine j_tabOut (tgt := 75) (pc := 13) hX dX8_ofThing_13 (jsw0_2 s13_3 s13_7 s13_10) (by decide) ?_
      refine j_bipush (v := (-2)) (pc := 75) hX dX8_ofThing_75 (by decide) ?_
      exact j_iret (pc := 77) hX hQ dX8_ofThing_77 rfl ⟨z, (by first | rfl | first | (simp (decide := true) only [jb_t, jb_f, rOfThing, kN_nI (show j < 100 by omega), hok5, s13_3, s13_7, s13_10, reduceIte, eq_self, decide_true, decide_false, Bool.and_true, Bool.true_and, Bool.and_false, Bool.false_and, Bool.and_self, not_true_eq_false, not_false_eq_true, and_true, true_and, and_false, false_and, and_self]; done) | (simp [jb_t, jb_f, rOfThing, kN_nI (show j < 100 by omega), hok5, s13_3, s13_7, s13_10]; done)), (rfl)⟩
    · skip
      refine j_iconst (v := (-1)) (pc := 10) hX dX8_ofThing_10 (by decide) ?_
      exact j_iret (pc := 11) hX hQ dX8_ofThing_11 rfl ⟨z, (by first | rfl | first | (simp only [jb_t, jb_f, rOfThing, okTh, c1_1, c7_2, reduceIte, eq_self, decide_true, decide_false, Bool.and_true, Bool.true_and, Bool.and_false, Bool.false_and, Bool.and_self, not_true_eq_false, not_false_eq_true, and_true, true_and, and_false, false_and, and_self]; done) | (simp [jb_t, jb_f, rOfThing, okTh, c1_1, c7_2]; done)), (rfl)⟩

set_option maxHeartbeats 4000000 in
set_option maxRecDepth 100000 in
theorem c_X8_count (g : jG) (ax : Nat) (q : adT) (h : Nat) (sl : Nat) (p : Nat) (s : Nat) (gr : Nat) (e : Nat) (v : StT) (hs : Nat) (ps : Nat) (pt : Nat) (pp : Nat) (c : Nat) (n : Nat) (b1 : Int32) (b2 : Int32) (b3 : Int32) (b4 : Int32) (w0 : Int32) (hv : v.2.1 ≤ 14) : jMI g yX8_count cX8_count 2 .int 4 85 [.ref ax, .int w0] [(ax, .inr (8, [.ref q.1, .ref h, .ref sl, .ref p, .ref s, .ref gr, .ref e])), (q.1, .inr (6, [.int v.1, .int (nI v.2.1), .ref q.2.1, .ref q.2.2.1, .ref q.2.2.2])), (q.2.1, .inl (gI g, 14, .inl v.2.2.1)), (q.2.2.1, .inl (gI g, 14, .inl v.2.2.2.1)), (q.2.2.2, .inl (gI g, 14, .inl v.2.2.2.2)), (h, .inr (1, [.int (nI c), .ref hs])), (p, .inr (2, [.int (nI n), .ref ps, .int b1, .ref pt, .ref pp, .int b2, .int b3, .int b4]))] (fun rz wz => rz = rCount v n c w0 ∧ wz = [(ax, .inr (8, [.ref q.1, .ref h, .ref sl, .ref p, .ref s, .ref gr, .ref e])), (q.1, .inr (6, [.int v.1, .int (nI v.2.1), .ref q.2.1, .ref q.2.2.1, .ref q.2.2.2])), (q.2.1, .inl (gI g, 14, .inl v.2.2.1)), (q.2.2.1, .inl (gI g, 14, .inl v.2.2.2.1)), (q.2.2.2, .inl (gI g, 14, .inl v.2.2.2.2)), (h, .inr (1, [.int (nI c), .ref hs])), (p, .inr (2, [.int (nI n), .ref ps, .int b1, .ref pt, .ref pp, .int b2, .int b3, .int b4]))]) := by
  refine jMI.intro (by decide +kernel) (Nat.le_of_ble_eq_true rfl) (fun x hX hQ => ?_)
  refine j_lv (lv2 := [(0, .ref ax), (1, .int w0)]) rfl ?_
  refine j_iload_n (pc := 0) hX dX8_count_0 1 rfl ?_
  by_cases s1_1 : w0 = 0
  · refine j_tabIn (off := 39) (tgt := 40) (pc := 1) hX dX8_count_1 (by rw [s1_1]; decide) (by rw [s1_1]; decide) (by rw [s1_1]; decide) (by decide) ?_
    refine j_aload_n (pc := 40) hX dX8_count_40 0 rfl ?_
    refine j_get (ci := 8) (pc := 41) hX inG8 rfl 0 (by decide) mw210 0 rfl rfl dX8_count_41 ?_
    refine j_getN (ci := 6) (pc := 44) hX inG6 rfl 1 (by decide) mw46 1 rfl rfl dX8_count_44 ?_
    exact j_iret (pc := 47) hX hQ dX8_count_47 rfl ⟨(by first | rfl | first | (simp (decide := true) only [jb_t, jb_f, rCount, hasC, s1_1, reduceIte, eq_self, decide_true, decide_false, Bool.and_true, Bool.true_and, Bool.and_false, Bool.false_and, Bool.and_self, not_true_eq_false, not_false_eq_true, and_true, true_and, and_false, false_and, and_self]; done) | (simp [jb_t, jb_f, rCount, hasC, s1_1]; done)), (by first | rfl | first | (simp (decide := true) only [jb_t, jb_f, rCount, hasC, s1_1, reduceIte, eq_self, decide_true, decide_false, Bool.and_true, Bool.true_and, Bool.and_false, Bool.false_and, Bool.and_self, not_true_eq_false, not_false_eq_true, and_true, true_and, and_false, false_and, and_self]; done) | (simp [jb_t, jb_f, rCount, hasC, s1_1]; done))⟩
  by_cases s1_2 : w0 = 1
  · refine j_tabIn (off := 47) (tgt := 48) (pc := 1) hX dX8_count_1 (by rw [s1_2]; decide) (by rw [s1_2]; decide) (by rw [s1_2]; decide) (by decide) ?_
    refine j_aload_n (pc := 48) hX dX8_count_48 0 rfl ?_
    refine j_get (ci := 8) (pc := 49) hX inG8 rfl 0 (by decide) mw210 0 rfl rfl dX8_count_49 ?_
    refine j_getN (ci := 6) (pc := 52) hX inG6 rfl 0 (by decide) mw41 1 rfl rfl dX8_count_52 ?_
    exact j_iret (pc := 55) hX hQ dX8_count_55 rfl ⟨(by first | rfl | first | (simp (decide := true) only [jb_t, jb_f, rCount, hasC, s1_1, s1_2, reduceIte, eq_self, decide_true, decide_false, Bool.and_true, Bool.true_and, Bool.and_false, Bool.false_and, Bool.and_self, not_true_eq_false, not_false_eq_true, and_true, true_and, and_false, false_and, and_self]; done) | (simp [jb_t, jb_f, rCount, hasC, s1_1, s1_2]; done)), (by first | rfl | first | (simp (decide := true) only [jb_t, jb_f, rCount, hasC, s1_1, s1_2, reduceIte, eq_self, decide_true, decide_false, Bool.and_true, Bool.true_and, Bool.and_false, Bool.false_and, Bool.and_self, not_true_eq_false, not_false_eq_true, and_true, true_and, and_false, false_and, and_self]; done) | (simp [jb_t, jb_f, rCount, hasC, s1_1, s1_2]; done))⟩
  by_cases s1_3 : w0 = 2
  · refine j_tabIn (off := 55) (tgt := 56) (pc := 1) hX dX8_count_1 (by rw [s1_3]; decide) (by rw [s1_3]; decide) (by rw [s1_3]; decide) (by decide) ?_
    refine j_aload_n (pc := 56) hX dX8_count_56 0 rfl ?_
    refine j_get (ci := 8) (pc := 57) hX inG8 rfl 0 (by decide) mw210 0 rfl rfl dX8_count_57 ?_
    refine j_callVI (n := 0) (As := []) (rest := []) (pc := 60) hX (c_X6_hasCover g q.1 q.2.1 q.2.2.1 q.2.2.2 v.1 v.2.1 v.2.2.1 v.2.2.2.1 v.2.2.2.2 (by first | assumption | omega)) (CV.of mw251 mw252 mw253 mw14 mw254 ⟨rfl, by decide +kernel, by decide +kernel, by decide +kernel⟩ (T := TX6) (N := 5) rfl) (Nat.le_of_ble_eq_true rfl) (Nat.le_of_ble_eq_true rfl) (Nat.le_of_ble_eq_true rfl) (Nat.le_of_ble_eq_true rfl) 1 rfl [1, 2, 3, 4] (by decide +kernel) rfl rfl rfl (Nat.le_of_ble_eq_true rfl) dX8_count_60 (fun r4 wz hq5 => ?_)
    obtain ⟨rfl, rfl⟩ := hq5
    refine j_ws (ws2 := [(ax, .inr (8, [.ref q.1, .ref h, .ref sl, .ref p, .ref s, .ref gr, .ref e])), (q.1, .inr (6, [.int v.1, .int (nI v.2.1), .ref q.2.1, .ref q.2.2.1, .ref q.2.2.2])), (q.2.1, .inl (gI g, 14, .inl v.2.2.1)), (q.2.2.1, .inl (gI g, 14, .inl v.2.2.2.1)), (q.2.2.2, .inl (gI g, 14, .inl v.2.2.2.2)), (h, .inr (1, [.int (nI c), .ref hs])), (p, .inr (2, [.int (nI n), .ref ps, .int b1, .ref pt, .ref pp, .int b2, .int b3, .int b4]))]) rfl ?_
    refine j_if_eq (tgt := 70) (pc := 63) hX dX8_count_63 (by decide) (fun c63_6 => ?_) (fun c63_6 => ?_)
    · skip
      have c63_6b : (S_has v.2.2.1 v.2.2.2.2 v.1 v.2.1) = false := jb_0.mp c63_6
      refine j_iconst (v := 0) (pc := 70) hX dX8_count_70 (by decide) ?_
      exact j_iret (pc := 71) hX hQ dX8_count_71 rfl ⟨(by first | rfl | first | (simp (decide := true) only [jb_t, jb_f, rCount, hasC, s1_1, s1_2, s1_3, c63_6, c63_6b, reduceIte, eq_self, decide_true, decide_false, Bool.and_true, Bool.true_and, Bool.and_false, Bool.false_and, Bool.and_self, not_true_eq_false, not_false_eq_true, and_true, true_and, and_false, false_and, and_self]; done) | (simp [jb_t, jb_f, rCount, hasC, s1_1, s1_2, s1_3, c63_6, c63_6b]; done)), (by first | rfl | first | (simp (decide := true) only [jb_t, jb_f, rCount, hasC, s1_1, s1_2, s1_3, c63_6, c63_6b, reduceIte, eq_self, decide_true, decide_false, Bool.and_true, Bool.true_and, Bool.and_false, Bool.false_and, Bool.and_self, not_true_eq_false, not_false_eq_true, and_true, true_and, and_false, false_and, and_self]; done) | (simp [jb_t, jb_f, rCount, hasC, s1_1, s1_2, s1_3, c63_6, c63_6b]; done))⟩
    · skip
      have c63_6b : (S_has v.2.2.1 v.2.2.2.2 v.1 v.2.1) = true := jb_1.mp c63_6
      refine j_iconst (v := 1) (pc := 66) hX dX8_count_66 (by decide) ?_
      refine j_goto (tgt := 71) (pc := 67) hX dX8_count_67 (by decide) ?_
      exact j_iret (pc := 71) hX hQ dX8_count_71 rfl ⟨(by first | rfl | first | (simp (decide := true) only [jb_t, jb_f, rCount, hasC, s1_1, s1_2, s1_3, c63_6, c63_6b, reduceIte, eq_self, decide_true, decide_false, Bool.and_true, Bool.true_and, Bool.and_false, Bool.false_and, Bool.and_self, not_true_eq_false, not_false_eq_true, and_true, true_and, and_false, false_and, and_self]; done) | (simp [jb_t, jb_f, rCount, hasC, s1_1, s1_2, s1_3, c63_6, c63_6b]; done)), (by first | rfl | first | (simp (decide := true) only [jb_t, jb_f, rCount, hasC, s1_1, s1_2, s1_3, c63_6, c63_6b, reduceIte, eq_self, decide_true, decide_false, Bool.and_true, Bool.true_and, Bool.and_false, Bool.false_and, Bool.and_self, not_true_eq_false, not_false_eq_true, and_true, true_and, and_false, false_and, and_self]; done) | (simp [jb_t, jb_f, rCount, hasC, s1_1, s1_2, s1_3, c63_6, c63_6b]; done))⟩
  by_cases s1_7 : w0 = 3
  · refine j_tabIn (off := 71) (tgt := 72) (pc := 1) hX dX8_count_1 (by rw [s1_7]; decide) (by rw [s1_7]; decide) (by rw [s1_7]; decide) (by decide) ?_
    refine j_aload_n (pc := 72) hX dX8_count_72 0 rfl ?_
    refine j_get (ci := 8) (pc := 73) hX inG8 rfl 0 (by decide) mw210 0 rfl rfl dX8_count_73 ?_
    refine j_callVI (n := 0) (As := []) (rest := []) (pc := 76) hX (c_X6_most g q.1 q.2.1 q.2.2.1 q.2.2.2 v.1 v.2.1 v.2.2.1 v.2.2.2.1 v.2.2.2.2 (by first | assumption | omega)) (CV.of mw274 mw275 mw276 mw14 mw277 ⟨rfl, by decide +kernel, by decide +kernel, by decide +kernel⟩ (T := TX6) (N := 5) rfl) (Nat.le_of_ble_eq_true rfl) (Nat.le_of_ble_eq_true rfl) (Nat.le_of_ble_eq_true rfl) (Nat.le_of_ble_eq_true rfl) 1 rfl [1, 2, 3, 4] (by decide +kernel) rfl rfl rfl (Nat.le_of_ble_eq_true rfl) dX8_count_76 (fun r8 wz hq9 => ?_)
    obtain ⟨rfl, rfl⟩ := hq9
    refine j_ws (ws2 := [(ax, .inr (8, [.ref q.1, .ref h, .ref sl, .ref p, .ref s, .ref gr, .ref e])), (q.1, .inr (6, [.int v.1, .int (nI v.2.1), .ref q.2.1, .ref q.2.2.1, .ref q.2.2.2])), (q.2.1, .inl (gI g, 14, .inl v.2.2.1)), (q.2.2.1, .inl (gI g, 14, .inl v.2.2.2.1)), (q.2.2.2, .inl (gI g, 14, .inl v.2.2.2.2)), (h, .inr (1, [.int (nI c), .ref hs])), (p, .inr (2, [.int (nI n), .ref ps, .int b1, .ref pt, .ref pp, .int b2, .int b3, .int b4]))]) rfl ?_
    exact j_iret (pc := 79) hX hQ dX8_count_79 rfl ⟨(by first | rfl | first | (simp (decide := true) only [jb_t, jb_f, rCount, hasC, s1_1, s1_2, s1_3, s1_7, reduceIte, eq_self, decide_true, decide_false, Bool.and_true, Bool.true_and, Bool.and_false, Bool.false_and, Bool.and_self, not_true_eq_false, not_false_eq_true, and_true, true_and, and_false, false_and, and_self]; done) | (simp [jb_t, jb_f, rCount, hasC, s1_1, s1_2, s1_3, s1_7]; done)), (by first | rfl | first | (simp (decide := true) only [jb_t, jb_f, rCount, hasC, s1_1, s1_2, s1_3, s1_7, reduceIte, eq_self, decide_true, decide_false, Bool.and_true, Bool.true_and, Bool.and_false, Bool.false_and, Bool.and_self, not_true_eq_false, not_false_eq_true, and_true, true_and, and_false, false_and, and_self]; done) | (simp [jb_t, jb_f, rCount, hasC, s1_1, s1_2, s1_3, s1_7]; done))⟩
  by_cases s1_10 : w0 = 4
  · refine j_tabIn (off := 79) (tgt := 80) (pc := 1) hX dX8_count_1 (by rw [s1_10]; decide) (by rw [s1_10]; decide) (by rw [s1_10]; decide) (by decide) ?_
    refine j_aload_n (pc := 80) hX dX8_count_80 0 rfl ?_
    refine j_get (ci := 8) (pc := 81) hX inG8 rfl 3 (by decide) mw213 0 rfl rfl dX8_count_81 ?_
    refine j_getN (ci := 2) (pc := 84) hX inG2 rfl 0 (by decide) mw102 6 rfl rfl dX8_count_84 ?_
    exact j_iret (pc := 87) hX hQ dX8_count_87 rfl ⟨(by first | rfl | first | (simp (decide := true) only [jb_t, jb_f, rCount, hasC, s1_1, s1_2, s1_3, s1_7, s1_10, reduceIte, eq_self, decide_true, decide_false, Bool.and_true, Bool.true_and, Bool.and_false, Bool.false_and, Bool.and_self, not_true_eq_false, not_false_eq_true, and_true, true_and, and_false, false_and, and_self]; done) | (simp [jb_t, jb_f, rCount, hasC, s1_1, s1_2, s1_3, s1_7, s1_10]; done)), (by first | rfl | first | (simp (decide := true) only [jb_t, jb_f, rCount, hasC, s1_1, s1_2, s1_3, s1_7, s1_10, reduceIte, eq_self, decide_true, decide_false, Bool.and_true, Bool.true_and, Bool.and_false, Bool.false_and, Bool.and_self, not_true_eq_false, not_false_eq_true, and_true, true_and, and_false, false_and, and_self]; done) | (simp [jb_t, jb_f, rCount, hasC, s1_1, s1_2, s1_3, s1_7, s1_10]; done))⟩
  by_cases s1_11 : w0 = 5
  · refine j_tabIn (off := 87) (tgt := 88) (pc := 1) hX dX8_count_1 (by rw [s1_11]; decide) (by rw [s1_11]; decide) (by rw [s1_11]; decide) (by decide) ?_
    refine j_aload_n (pc := 88) hX dX8_count_88 0 rfl ?_
    refine j_get (ci := 8) (pc := 89) hX inG8 rfl 1 (by decide) mw211 0 rfl rfl dX8_count_89 ?_
    refine j_getN (ci := 1) (pc := 92) hX inG1 rfl 0 (by decide) mw78 5 rfl rfl dX8_count_92 ?_
    exact j_iret (pc := 95) hX hQ dX8_count_95 rfl ⟨(by first | rfl | first | (simp (decide := true) only [jb_t, jb_f, rCount, hasC, s1_1, s1_2, s1_3, s1_7, s1_10, s1_11, reduceIte, eq_self, decide_true, decide_false, Bool.and_true, Bool.true_and, Bool.and_false, Bool.false_and, Bool.and_self, not_true_eq_false, not_false_eq_true, and_true, true_and, and_false, false_and, and_self]; done) | (simp [jb_t, jb_f, rCount, hasC, s1_1, s1_2, s1_3, s1_7, s1_10, s1_11]; done)), (by first | rfl | first | (simp (decide := true) only [jb_t, jb_f, rCount, hasC, s1_1, s1_2, s1_3, s1_7, s1_10, s1_11, reduceIte, eq_self, decide_true, decide_false, Bool.and_true, Bool.true_and, Bool.and_false, Bool.false_and, Bool.and_self, not_true_eq_false, not_false_eq_true, and_true, true_and, and_false, false_and, and_self]; done) | (simp [jb_t, jb_f, rCount, hasC, s1_1, s1_2, s1_3, s1_7, s1_10, s1_11]; done))⟩
  refine j_tabOut (tgt := 96) (pc := 1) hX dX8_count_1 (jsw0_5 s1_1 s1_2 s1_3 s1_7 s1_10 s1_11) (by decide) ?_
  refine j_bipush (v := (-2)) (pc := 96) hX dX8_count_96 (by decide) ?_
  exact j_iret (pc := 98) hX hQ dX8_count_98 rfl ⟨(by first | rfl | first | (simp (decide := true) only [jb_t, jb_f, rCount, hasC, s1_1, s1_2, s1_3, s1_7, s1_10, s1_11, reduceIte, eq_self, decide_true, decide_false, Bool.and_true, Bool.true_and, Bool.and_false, Bool.false_and, Bool.and_self, not_true_eq_false, not_false_eq_true, and_true, true_and, and_false, false_and, and_self]; done) | (simp [jb_t, jb_f, rCount, hasC, s1_1, s1_2, s1_3, s1_7, s1_10, s1_11]; done)), (by first | rfl | first | (simp (decide := true) only [jb_t, jb_f, rCount, hasC, s1_1, s1_2, s1_3, s1_7, s1_10, s1_11, reduceIte, eq_self, decide_true, decide_false, Bool.and_true, Bool.true_and, Bool.and_false, Bool.false_and, Bool.and_self, not_true_eq_false, not_false_eq_true, and_true, true_and, and_false, false_and, and_self]; done) | (simp [jb_t, jb_f, rCount, hasC, s1_1, s1_2, s1_3, s1_7, s1_10, s1_11]; done))⟩

set_option maxHeartbeats 4000000 in
set_option maxRecDepth 100000 in
theorem c_X8_shared (g : jG) (ax : Nat) (q : adT) (h : Nat) (sl : Nat) (p : Nat) (s : Nat) (gr : Nat) (e : Nat) (v : StT) (s1 : Nat) (s2 : Nat) (s3 : Nat) (s4 : Nat) (z : SHT) (w0 : Int32) (hv : v.2.1 ≤ 14) : jMI g yX8_shared cX8_shared 4 .int 5 108 [.ref ax, .int w0] [(ax, .inr (8, [.ref q.1, .ref h, .ref sl, .ref p, .ref s, .ref gr, .ref e])), (q.1, .inr (6, [.int v.1, .int (nI v.2.1), .ref q.2.1, .ref q.2.2.1, .ref q.2.2.2])), (q.2.1, .inl (gI g, 14, .inl v.2.2.1)), (q.2.2.1, .inl (gI g, 14, .inl v.2.2.2.1)), (q.2.2.2, .inl (gI g, 14, .inl v.2.2.2.2)), (s, .inr (4, [.int z.1, .int z.2.1, .int (nI z.2.2.1), .int z.2.2.2.1, .int (nI z.2.2.2.2.1), .int z.2.2.2.2.2.1, .ref s1, .ref s2, .ref s3, .ref s4])), (s1, .inl (gI g, 18, .inl z.2.2.2.2.2.2.1)), (s2, .inl (gI g, 14, .inl z.2.2.2.2.2.2.2.1)), (s3, .inl (gI g, 14, .inl z.2.2.2.2.2.2.2.2.1)), (s4, .inl (gI g, 14, .inl (oI z.2.2.2.2.2.2.2.2.2)))] (fun rz wz => ∃ z1 : SHT, rz = rShared v z w0 ∧ wz = [(ax, .inr (8, [.ref q.1, .ref h, .ref sl, .ref p, .ref s, .ref gr, .ref e])), (q.1, .inr (6, [.int v.1, .int (nI v.2.1), .ref q.2.1, .ref q.2.2.1, .ref q.2.2.2])), (q.2.1, .inl (gI g, 14, .inl v.2.2.1)), (q.2.2.1, .inl (gI g, 14, .inl v.2.2.2.1)), (q.2.2.2, .inl (gI g, 14, .inl v.2.2.2.2)), (s, .inr (4, [.int z1.1, .int z1.2.1, .int (nI z1.2.2.1), .int z1.2.2.2.1, .int (nI z1.2.2.2.2.1), .int z1.2.2.2.2.2.1, .ref s1, .ref s2, .ref s3, .ref s4])), (s1, .inl (gI g, 18, .inl z1.2.2.2.2.2.2.1)), (s2, .inl (gI g, 14, .inl z1.2.2.2.2.2.2.2.1)), (s3, .inl (gI g, 14, .inl z1.2.2.2.2.2.2.2.2.1)), (s4, .inl (gI g, 14, .inl (oI z1.2.2.2.2.2.2.2.2.2)))]) := by
  refine jMI.intro (by decide +kernel) (Nat.le_of_ble_eq_true rfl) (fun x hX hQ => ?_)
  refine j_lv (lv2 := [(0, .ref ax), (1, .int w0)]) rfl ?_
  refine j_iload_n (pc := 0) hX dX8_shared_0 1 rfl ?_
  refine j_if_lt (tgt := 9) (pc := 1) hX dX8_shared_1 (by decide) (fun c1_1 => ?_) (fun c1_1 => ?_)
  · skip
    refine j_bipush (v := (-2)) (pc := 9) hX dX8_shared_9 (by decide) ?_
    exact j_iret (pc := 11) hX hQ dX8_shared_11 rfl ⟨z, (by first | rfl | first | (simp only [jb_t, jb_f, rShared, hasC, c1_1, reduceIte, eq_self, decide_true, decide_false, Bool.and_true, Bool.true_and, Bool.and_false, Bool.false_and, Bool.and_self, not_true_eq_false, not_false_eq_true, and_true, true_and, and_false, false_and, and_self]; done) | (simp [jb_t, jb_f, rShared, hasC, c1_1]; done)), (rfl)⟩
  · skip
    refine j_iload_n (pc := 4) hX dX8_shared_4 1 rfl ?_
    refine j_iconst (v := 5) (pc := 5) hX dX8_shared_5 (by decide) ?_
    refine j_icmp_le (tgt := 12) (pc := 6) hX dX8_shared_6 (by decide) (fun c6_2 => ?_) (fun c6_2 => ?_)
    · skip
      refine j_aload_n (pc := 12) hX dX8_shared_12 0 rfl ?_
      refine j_get (ci := 8) (pc := 13) hX inG8 rfl 0 (by decide) mw210 0 rfl rfl dX8_shared_13 ?_
      refine j_callVI (n := 0) (As := []) (rest := []) (pc := 16) hX (c_X6_hasCover g q.1 q.2.1 q.2.2.1 q.2.2.2 v.1 v.2.1 v.2.2.1 v.2.2.2.1 v.2.2.2.2 (by first | assumption | omega)) (CV.of mw251 mw252 mw253 mw14 mw254 ⟨rfl, by decide +kernel, by decide +kernel, by decide +kernel⟩ (T := TX6) (N := 5) rfl) (Nat.le_of_ble_eq_true rfl) (Nat.le_of_ble_eq_true rfl) (Nat.le_of_ble_eq_true rfl) (Nat.le_of_ble_eq_true rfl) 1 rfl [1, 2, 3, 4] (by decide +kernel) rfl rfl rfl (Nat.le_of_ble_eq_true rfl) dX8_shared_16 (fun r3 wz hq4 => ?_)
      obtain ⟨rfl, rfl⟩ := hq4
      refine j_ws (ws2 := [(ax, .inr (8, [.ref q.1, .ref h, .ref sl, .ref p, .ref s, .ref gr, .ref e])), (q.1, .inr (6, [.int v.1, .int (nI v.2.1), .ref q.2.1, .ref q.2.2.1, .ref q.2.2.2])), (q.2.1, .inl (gI g, 14, .inl v.2.2.1)), (q.2.2.1, .inl (gI g, 14, .inl v.2.2.2.1)), (q.2.2.2, .inl (gI g, 14, .inl v.2.2.2.2)), (s, .inr (4, [.int z.1, .int z.2.1, .int (nI z.2.2.1), .int z.2.2.2.1, .int (nI z.2.2.2.2.1), .int z.2.2.2.2.2.1, .ref s1, .ref s2, .ref s3, .ref s4])), (s1, .inl (gI g, 18, .inl z.2.2.2.2.2.2.1)), (s2, .inl (gI g, 14, .inl z.2.2.2.2.2.2.2.1)), (s3, .inl (gI g, 14, .inl z.2.2.2.2.2.2.2.2.1)), (s4, .inl (gI g, 14, .inl (oI z.2.2.2.2.2.2.2.2.2)))]) rfl ?_
      refine j_if_ne (tgt := 25) (pc := 19) hX dX8_shared_19 (by decide) (fun c19_5 => ?_) (fun c19_5 => ?_)
      · skip
        have c19_5b : (S_has v.2.2.1 v.2.2.2.2 v.1 v.2.1) = true := jb_1.mp c19_5
        refine j_aload_n (pc := 25) hX dX8_shared_25 0 rfl ?_
        refine j_get (ci := 8) (pc := 26) hX inG8 rfl 4 (by decide) mw214 0 rfl rfl dX8_shared_26 ?_
        refine j_aload_n (pc := 29) hX dX8_shared_29 0 rfl ?_
        refine j_get (ci := 8) (pc := 30) hX inG8 rfl 0 (by decide) mw210 0 rfl rfl dX8_shared_30 ?_
        refine j_callVV (n := 1) (As := [.ref q.1]) (rest := []) (pc := 33) hX (c_X4_raiseAll g s s1 s2 s3 s4 z q v (by first | assumption | omega)) (CV.of mw305 mw306 mw307 mw18 mw308 ⟨rfl, by decide +kernel, by decide +kernel, by decide +kernel⟩ (T := TX4) (N := 10) rfl) (Nat.le_of_ble_eq_true rfl) (Nat.le_of_ble_eq_true rfl) (Nat.le_of_ble_eq_true rfl) (Nat.le_of_ble_eq_true rfl) 5 rfl [5, 6, 7, 8, 9, 1, 2, 3, 4] (by decide +kernel) rfl rfl rfl (Nat.le_of_ble_eq_true rfl) dX8_shared_33 (fun wz wnz hq7 => ?_)
        obtain ⟨rfl, rfl⟩ := hq7
        refine j_ws (ws2 := [(ax, .inr (8, [.ref q.1, .ref h, .ref sl, .ref p, .ref s, .ref gr, .ref e])), (q.1, .inr (6, [.int v.1, .int (nI v.2.1), .ref q.2.1, .ref q.2.2.1, .ref q.2.2.2])), (q.2.1, .inl (gI g, 14, .inl v.2.2.1)), (q.2.2.1, .inl (gI g, 14, .inl v.2.2.2.1)), (q.2.2.2, .inl (gI g, 14, .inl v.2.2.2.2)), (s, .inr (4, [.int ((aLL v z).1), .int ((aLL v z).2.1), .int (nI ((aLL v z).2.2.1)), .int ((aLL v z).2.2.2.1), .int (nI ((aLL v z).2.2.2.2.1)), .int ((aLL v z).2.2.2.2.2.1), .ref s1, .ref s2, .ref s3, .ref s4])), (s1, .inl (gI g, 18, .inl ((aLL v z).2.2.2.2.2.2.1))), (s2, .inl (gI g, 14, .inl ((aLL v z).2.2.2.2.2.2.2.1))), (s3, .inl (gI g, 14, .inl ((aLL v z).2.2.2.2.2.2.2.2.1))), (s4, .inl (gI g, 14, .inl (oI ((aLL v z).2.2.2.2.2.2.2.2.2))))]) rfl ?_
        refine j_aload_n (pc := 36) hX dX8_shared_36 0 rfl ?_
        refine j_get (ci := 8) (pc := 37) hX inG8 rfl 0 (by decide) mw210 0 rfl rfl dX8_shared_37 ?_
        refine j_iconst (v := 1) (pc := 40) hX dX8_shared_40 (by decide) ?_
        refine j_callVI (n := 1) (As := [.int 1]) (rest := []) (pc := 41) hX (c_X6_marked g q.1 q.2.1 q.2.2.1 q.2.2.2 v.1 v.2.1 v.2.2.1 v.2.2.2.1 v.2.2.2.2 1 (by first | assumption | omega)) (CV.of mw372 mw260 mw261 mw14 mw262 ⟨rfl, by decide +kernel, by decide +kernel, by decide +kernel⟩ (T := TX6) (N := 5) rfl) (Nat.le_of_ble_eq_true rfl) (Nat.le_of_ble_eq_true rfl) (Nat.le_of_ble_eq_true rfl) (Nat.le_of_ble_eq_true rfl) 1 rfl [1, 2, 3, 4] (by decide +kernel) rfl rfl rfl (Nat.le_of_ble_eq_true rfl) dX8_shared_41 (fun r8 wz hq9 => ?_)
        obtain ⟨rfl, rfl⟩ := hq9
        refine j_ws (ws2 := [(ax, .inr (8, [.ref q.1, .ref h, .ref sl, .ref p, .ref s, .ref gr, .ref e])), (q.1, .inr (6, [.int v.1, .int (nI v.2.1), .ref q.2.1, .ref q.2.2.1, .ref q.2.2.2])), (q.2.1, .inl (gI g, 14, .inl v.2.2.1)), (q.2.2.1, .inl (gI g, 14, .inl v.2.2.2.1)), (q.2.2.2, .inl (gI g, 14, .inl v.2.2.2.2)), (s, .inr (4, [.int ((aLL v z).1), .int ((aLL v z).2.1), .int (nI ((aLL v z).2.2.1)), .int ((aLL v z).2.2.2.1), .int (nI ((aLL v z).2.2.2.2.1)), .int ((aLL v z).2.2.2.2.2.1), .ref s1, .ref s2, .ref s3, .ref s4])), (s1, .inl (gI g, 18, .inl ((aLL v z).2.2.2.2.2.2.1))), (s2, .inl (gI g, 14, .inl ((aLL v z).2.2.2.2.2.2.2.1))), (s3, .inl (gI g, 14, .inl ((aLL v z).2.2.2.2.2.2.2.2.1))), (s4, .inl (gI g, 14, .inl (oI ((aLL v z).2.2.2.2.2.2.2.2.2))))]) rfl ?_
        refine j_istore_n (lv2 := [(0, .ref ax), (1, .int w0), (2, .int (S_mk v.2.2.2.2 1 v.2.1))]) (pc := 44) hX dX8_shared_44 [1, 2, 0] (by decide) rfl ?_
        refine j_iload_n (pc := 45) hX dX8_shared_45 2 rfl ?_
        refine j_aload_n (pc := 46) hX dX8_shared_46 0 rfl ?_
        refine j_get (ci := 8) (pc := 47) hX inG8 rfl 4 (by decide) mw214 0 rfl rfl dX8_shared_47 ?_
        refine j_getN (ci := 4) (pc := 50) hX inG4 rfl 3 (by decide) mw130 5 rfl rfl dX8_shared_50 ?_
        refine j_aload_n (pc := 53) hX dX8_shared_53 0 rfl ?_
        refine j_get (ci := 8) (pc := 54) hX inG8 rfl 4 (by decide) mw214 0 rfl rfl dX8_shared_54 ?_
        refine j_getN (ci := 4) (pc := 57) hX inG4 rfl 5 (by decide) mw134 5 rfl rfl dX8_shared_57 ?_
        refine j_iconst (v := (-1)) (pc := 60) hX dX8_shared_60 (by decide) ?_
        refine j_ixor (pc := 61) hX dX8_shared_61 ?_
        refine j_iand (pc := 62) hX dX8_shared_62 ?_
        refine j_ior (pc := 63) hX dX8_shared_63 ?_
        refine j_top (b := shC v z) (rfl) ?_
        refine j_istore_n (lv2 := [(0, .ref ax), (1, .int w0), (2, .int (S_mk v.2.2.2.2 1 v.2.1)), (3, .int (shC v z))]) (pc := 64) hX dX8_shared_64 [1, 2, 3, 0] (by decide) rfl ?_
        refine j_iload_n (pc := 65) hX dX8_shared_65 1 rfl ?_
        by_cases s66_10 : w0 = 0
        · refine j_tabIn (off := 34) (tgt := 100) (pc := 66) hX dX8_shared_66 (by rw [s66_10]; decide) (by rw [s66_10]; decide) (by rw [s66_10]; decide) (by decide) ?_
          refine j_iload_n (pc := 100) hX dX8_shared_100 3 rfl ?_
          exact j_iret (pc := 101) hX hQ dX8_shared_101 rfl ⟨(aLL v z), (by first | rfl | first | (simp (decide := true) only [jb_t, jb_f, rShared, hasC, c1_1, c6_2, c19_5, c19_5b, s66_10, reduceIte, eq_self, decide_true, decide_false, Bool.and_true, Bool.true_and, Bool.and_false, Bool.false_and, Bool.and_self, not_true_eq_false, not_false_eq_true, and_true, true_and, and_false, false_and, and_self]; done) | (simp [jb_t, jb_f, rShared, hasC, c1_1, c6_2, c19_5, c19_5b, s66_10]; done)), (rfl)⟩
        by_cases s66_11 : w0 = 1
        · refine j_tabIn (off := 36) (tgt := 102) (pc := 66) hX dX8_shared_66 (by rw [s66_11]; decide) (by rw [s66_11]; decide) (by rw [s66_11]; decide) (by decide) ?_
          refine j_aload_n (pc := 102) hX dX8_shared_102 0 rfl ?_
          refine j_get (ci := 8) (pc := 103) hX inG8 rfl 0 (by decide) mw210 0 rfl rfl dX8_shared_103 ?_
          refine j_iload_n (pc := 106) hX dX8_shared_106 3 rfl ?_
          refine j_callVI (n := 1) (As := [.int (shC v z)]) (rest := []) (pc := 107) hX (c_X6_priceOf g q.1 q.2.1 q.2.2.1 q.2.2.2 v.1 v.2.1 v.2.2.1 v.2.2.2.1 v.2.2.2.2 (shC v z) (by first | assumption | omega)) (CV.of mw361 mw362 mw363 mw14 mw364 ⟨rfl, by decide +kernel, by decide +kernel, by decide +kernel⟩ (T := TX6) (N := 5) rfl) (Nat.le_of_ble_eq_true rfl) (Nat.le_of_ble_eq_true rfl) (Nat.le_of_ble_eq_true rfl) (Nat.le_of_ble_eq_true rfl) 1 rfl [1, 2, 3, 4] (by decide +kernel) rfl rfl rfl (Nat.le_of_ble_eq_true rfl) dX8_shared_107 (fun r12 wz hq13 => ?_)
          obtain ⟨rfl, rfl⟩ := hq13
          refine j_ws (ws2 := [(ax, .inr (8, [.ref q.1, .ref h, .ref sl, .ref p, .ref s, .ref gr, .ref e])), (q.1, .inr (6, [.int v.1, .int (nI v.2.1), .ref q.2.1, .ref q.2.2.1, .ref q.2.2.2])), (q.2.1, .inl (gI g, 14, .inl v.2.2.1)), (q.2.2.1, .inl (gI g, 14, .inl v.2.2.2.1)), (q.2.2.2, .inl (gI g, 14, .inl v.2.2.2.2)), (s, .inr (4, [.int ((aLL v z).1), .int ((aLL v z).2.1), .int (nI ((aLL v z).2.2.1)), .int ((aLL v z).2.2.2.1), .int (nI ((aLL v z).2.2.2.2.1)), .int ((aLL v z).2.2.2.2.2.1), .ref s1, .ref s2, .ref s3, .ref s4])), (s1, .inl (gI g, 18, .inl ((aLL v z).2.2.2.2.2.2.1))), (s2, .inl (gI g, 14, .inl ((aLL v z).2.2.2.2.2.2.2.1))), (s3, .inl (gI g, 14, .inl ((aLL v z).2.2.2.2.2.2.2.2.1))), (s4, .inl (gI g, 14, .inl (oI ((aLL v z).2.2.2.2.2.2.2.2.2))))]) rfl ?_
          exact j_iret (pc := 110) hX hQ dX8_shared_110 rfl ⟨(aLL v z), (by first | rfl | first | (simp (decide := true) only [jb_t, jb_f, rShared, hasC, c1_1, c6_2, c19_5, c19_5b, s66_10, s66_11, reduceIte, eq_self, decide_true, decide_false, Bool.and_true, Bool.true_and, Bool.and_false, Bool.false_and, Bool.and_self, not_true_eq_false, not_false_eq_true, and_true, true_and, and_false, false_and, and_self]; done) | (simp [jb_t, jb_f, rShared, hasC, c1_1, c6_2, c19_5, c19_5b, s66_10, s66_11]; done)), (rfl)⟩
        by_cases s66_14 : w0 = 2
        · refine j_tabIn (off := 45) (tgt := 111) (pc := 66) hX dX8_shared_66 (by rw [s66_14]; decide) (by rw [s66_14]; decide) (by rw [s66_14]; decide) (by decide) ?_
          refine j_aload_n (pc := 111) hX dX8_shared_111 0 rfl ?_
          refine j_get (ci := 8) (pc := 112) hX inG8 rfl 4 (by decide) mw214 0 rfl rfl dX8_shared_112 ?_
          refine j_callVI (n := 0) (As := []) (rest := []) (pc := 115) hX (c_X4_sum g s s1 s2 s3 s4 (aLL v z) ) (CV.of mw373 mw374 mw375 mw18 mw376 ⟨rfl, by decide +kernel, by decide +kernel, by decide +kernel⟩ (T := TX4) (N := 10) rfl) (Nat.le_of_ble_eq_true rfl) (Nat.le_of_ble_eq_true rfl) (Nat.le_of_ble_eq_true rfl) (Nat.le_of_ble_eq_true rfl) 5 rfl [5, 6, 7, 8, 9] (by decide +kernel) rfl rfl rfl (Nat.le_of_ble_eq_true rfl) dX8_shared_115 (fun r15 wz hq16 => ?_)
          obtain ⟨rfl, rfl⟩ := hq16
          refine j_ws (ws2 := [(ax, .inr (8, [.ref q.1, .ref h, .ref sl, .ref p, .ref s, .ref gr, .ref e])), (q.1, .inr (6, [.int v.1, .int (nI v.2.1), .ref q.2.1, .ref q.2.2.1, .ref q.2.2.2])), (q.2.1, .inl (gI g, 14, .inl v.2.2.1)), (q.2.2.1, .inl (gI g, 14, .inl v.2.2.2.1)), (q.2.2.2, .inl (gI g, 14, .inl v.2.2.2.2)), (s, .inr (4, [.int ((aLL v z).1), .int ((aLL v z).2.1), .int (nI (aLL v z).2.2.1), .int ((aLL v z).2.2.2.1), .int (nI (aLL v z).2.2.2.2.1), .int ((aLL v z).2.2.2.2.2.1), .ref s1, .ref s2, .ref s3, .ref s4])), (s1, .inl (gI g, 18, .inl ((aLL v z).2.2.2.2.2.2.1))), (s2, .inl (gI g, 14, .inl ((aLL v z).2.2.2.2.2.2.2.1))), (s3, .inl (gI g, 14, .inl ((aLL v z).2.2.2.2.2.2.2.2.1))), (s4, .inl (gI g, 14, .inl (oI (aLL v z).2.2.2.2.2.2.2.2.2)))]) rfl ?_
          refine j_aload_n (pc := 118) hX dX8_shared_118 0 rfl ?_
          refine j_get (ci := 8) (pc := 119) hX inG8 rfl 0 (by decide) mw210 0 rfl rfl dX8_shared_119 ?_
          refine j_iload_n (pc := 122) hX dX8_shared_122 2 rfl ?_
          refine j_callVI (n := 1) (As := [.int (S_mk v.2.2.2.2 1 v.2.1)]) (rest := [.int (S_rs (aLL v z).2.2.2.2.2.2.1 18)]) (pc := 123) hX (c_X6_priceOf g q.1 q.2.1 q.2.2.1 q.2.2.2 v.1 v.2.1 v.2.2.1 v.2.2.2.1 v.2.2.2.2 (S_mk v.2.2.2.2 1 v.2.1) (by first | assumption | omega)) (CV.of mw361 mw362 mw363 mw14 mw364 ⟨rfl, by decide +kernel, by decide +kernel, by decide +kernel⟩ (T := TX6) (N := 5) rfl) (Nat.le_of_ble_eq_true rfl) (Nat.le_of_ble_eq_true rfl) (Nat.le_of_ble_eq_true rfl) (Nat.le_of_ble_eq_true rfl) 1 rfl [1, 2, 3, 4] (by decide +kernel) rfl rfl rfl (Nat.le_of_ble_eq_true rfl) dX8_shared_123 (fun r17 wz hq18 => ?_)
          obtain ⟨rfl, rfl⟩ := hq18
          refine j_ws (ws2 := [(ax, .inr (8, [.ref q.1, .ref h, .ref sl, .ref p, .ref s, .ref gr, .ref e])), (q.1, .inr (6, [.int v.1, .int (nI v.2.1), .ref q.2.1, .ref q.2.2.1, .ref q.2.2.2])), (q.2.1, .inl (gI g, 14, .inl v.2.2.1)), (q.2.2.1, .inl (gI g, 14, .inl v.2.2.2.1)), (q.2.2.2, .inl (gI g, 14, .inl v.2.2.2.2)), (s, .inr (4, [.int ((aLL v z).1), .int ((aLL v z).2.1), .int (nI (aLL v z).2.2.1), .int ((aLL v z).2.2.2.1), .int (nI (aLL v z).2.2.2.2.1), .int ((aLL v z).2.2.2.2.2.1), .ref s1, .ref s2, .ref s3, .ref s4])), (s1, .inl (gI g, 18, .inl ((aLL v z).2.2.2.2.2.2.1))), (s2, .inl (gI g, 14, .inl ((aLL v z).2.2.2.2.2.2.2.1))), (s3, .inl (gI g, 14, .inl ((aLL v z).2.2.2.2.2.2.2.2.1))), (s4, .inl (gI g, 14, .inl (oI (aLL v z).2.2.2.2.2.2.2.2.2)))]) rfl ?_
          refine j_iadd (pc := 126) hX dX8_shared_126 ?_
          exact j_iret (pc := 127) hX hQ dX8_shared_127 rfl ⟨(aLL v z), (by first | rfl | first | (simp (decide := true) only [jb_t, jb_f, rShared, hasC, c1_1, c6_2, c19_5, c19_5b, s66_10, s66_11, s66_14, reduceIte, eq_self, decide_true, decide_false, Bool.and_true, Bool.true_and, Bool.and_false, Bool.false_and, Bool.and_self, not_true_eq_false, not_false_eq_true, and_true, true_and, and_false, false_and, and_self]; done) | (simp [jb_t, jb_f, rShared, hasC, c1_1, c6_2, c19_5, c19_5b, s66_10, s66_11, s66_14]; done)), (rfl)⟩
        by_cases s66_19 : w0 = 3
        · refine j_tabIn (off := 62) (tgt := 128) (pc := 66) hX dX8_shared_66 (by rw [s66_19]; decide) (by rw [s66_19]; decide) (by rw [s66_19]; decide) (by decide) ?_
          refine j_aload_n (pc := 128) hX dX8_shared_128 0 rfl ?_
          refine j_get (ci := 8) (pc := 129) hX inG8 rfl 4 (by decide) mw214 0 rfl rfl dX8_shared_129 ?_
          refine j_getN (ci := 4) (pc := 132) hX inG4 rfl 2 (by decide) mw128 5 rfl rfl dX8_shared_132 ?_
          exact j_iret (pc := 135) hX hQ dX8_shared_135 rfl ⟨(aLL v z), (by first | rfl | first | (simp (decide := true) only [jb_t, jb_f, rShared, hasC, c1_1, c6_2, c19_5, c19_5b, s66_10, s66_11, s66_14, s66_19, reduceIte, eq_self, decide_true, decide_false, Bool.and_true, Bool.true_and, Bool.and_false, Bool.false_and, Bool.and_self, not_true_eq_false, not_false_eq_true, and_true, true_and, and_false, false_and, and_self]; done) | (simp [jb_t, jb_f, rShared, hasC, c1_1, c6_2, c19_5, c19_5b, s66_10, s66_11, s66_14, s66_19]; done)), (rfl)⟩
        by_cases s66_20 : w0 = 4
        · refine j_tabIn (off := 70) (tgt := 136) (pc := 66) hX dX8_shared_66 (by rw [s66_20]; decide) (by rw [s66_20]; decide) (by rw [s66_20]; decide) (by decide) ?_
          refine j_aload_n (pc := 136) hX dX8_shared_136 0 rfl ?_
          refine j_get (ci := 8) (pc := 137) hX inG8 rfl 4 (by decide) mw214 0 rfl rfl dX8_shared_137 ?_
          refine j_getN (ci := 4) (pc := 140) hX inG4 rfl 4 (by decide) mw132 5 rfl rfl dX8_shared_140 ?_
          exact j_iret (pc := 143) hX hQ dX8_shared_143 rfl ⟨(aLL v z), (by first | rfl | first | (simp (decide := true) only [jb_t, jb_f, rShared, hasC, c1_1, c6_2, c19_5, c19_5b, s66_10, s66_11, s66_14, s66_19, s66_20, reduceIte, eq_self, decide_true, decide_false, Bool.and_true, Bool.true_and, Bool.and_false, Bool.false_and, Bool.and_self, not_true_eq_false, not_false_eq_true, and_true, true_and, and_false, false_and, and_self]; done) | (simp [jb_t, jb_f, rShared, hasC, c1_1, c6_2, c19_5, c19_5b, s66_10, s66_11, s66_14, s66_19, s66_20]; done)), (rfl)⟩
        refine j_tabOut (tgt := 144) (pc := 66) hX dX8_shared_66 (jsw0_4 s66_10 s66_11 s66_14 s66_19 s66_20) (by decide) ?_
        refine j_aload_n (pc := 144) hX dX8_shared_144 0 rfl ?_
        refine j_get (ci := 8) (pc := 145) hX inG8 rfl 4 (by decide) mw214 0 rfl rfl dX8_shared_145 ?_
        refine j_getN (ci := 4) (pc := 148) hX inG4 rfl 5 (by decide) mw134 5 rfl rfl dX8_shared_148 ?_
        refine j_callSI (n := 1) (As := [.int ((aLL v z).2.2.2.2.2.1)]) (rest := []) (pc := 151) hX (c_J6_bitCount g ((aLL v z).2.2.2.2.2.1) ) (CS.of mw377 mw283 mw22 mw284 ⟨by decide +kernel, by decide +kernel, by decide +kernel⟩) (Nat.le_of_ble_eq_true rfl) (Nat.le_of_ble_eq_true rfl) (Nat.le_of_ble_eq_true rfl) (Nat.le_of_ble_eq_true rfl) [] (by decide +kernel) rfl rfl rfl (Nat.le_of_ble_eq_true rfl) dX8_shared_151 (fun r21 wz hq22 => ?_)
        obtain ⟨rfl, rfl⟩ := hq22
        refine j_ws (ws2 := [(ax, .inr (8, [.ref q.1, .ref h, .ref sl, .ref p, .ref s, .ref gr, .ref e])), (q.1, .inr (6, [.int v.1, .int (nI v.2.1), .ref q.2.1, .ref q.2.2.1, .ref q.2.2.2])), (q.2.1, .inl (gI g, 14, .inl v.2.2.1)), (q.2.2.1, .inl (gI g, 14, .inl v.2.2.2.1)), (q.2.2.2, .inl (gI g, 14, .inl v.2.2.2.2)), (s, .inr (4, [.int ((aLL v z).1), .int ((aLL v z).2.1), .int (nI ((aLL v z).2.2.1)), .int ((aLL v z).2.2.2.1), .int (nI ((aLL v z).2.2.2.2.1)), .int ((aLL v z).2.2.2.2.2.1), .ref s1, .ref s2, .ref s3, .ref s4])), (s1, .inl (gI g, 18, .inl ((aLL v z).2.2.2.2.2.2.1))), (s2, .inl (gI g, 14, .inl ((aLL v z).2.2.2.2.2.2.2.1))), (s3, .inl (gI g, 14, .inl ((aLL v z).2.2.2.2.2.2.2.2.1))), (s4, .inl (gI g, 14, .inl (oI ((aLL v z).2.2.2.2.2.2.2.2.2))))]) rfl ?_
        exact j_iret (pc := 154) hX hQ dX8_shared_154 rfl ⟨(aLL v z), (by first | rfl | first | (simp (decide := true) only [jb_t, jb_f, rShared, hasC, c1_1, c6_2, c19_5, c19_5b, s66_10, s66_11, s66_14, s66_19, s66_20, reduceIte, eq_self, decide_true, decide_false, Bool.and_true, Bool.true_and, Bool.and_false, Bool.false_and, Bool.and_self, not_true_eq_false, not_false_eq_true, and_true, true_and, and_false, false_and, and_self]; done) | (simp [jb_t, jb_f, rShared, hasC, c1_1, c6_2, c19_5, c19_5b, s66_10, s66_11, s66_14, s66_19, s66_20]; done)), (rfl)⟩
      · skip
        have c19_5b : (S_has v.2.2.1 v.2.2.2.2 v.1 v.2.1) = false := jb_0.mp c19_5
        refine j_bipush (v := (-5)) (pc := 22) hX dX8_shared_22 (by decide) ?_
        exact j_iret (pc := 24) hX hQ dX8_shared_24 rfl ⟨z, (by first | rfl | first | (simp only [jb_t, jb_f, rShared, hasC, c1_1, c6_2, c19_5, c19_5b, reduceIte, eq_self, decide_true, decide_false, Bool.and_true, Bool.true_and, Bool.and_false, Bool.false_and, Bool.and_self, not_true_eq_false, not_false_eq_true, and_true, true_and, and_false, false_and, and_self]; done) | (simp [jb_t, jb_f, rShared, hasC, c1_1, c6_2, c19_5, c19_5b]; done)), (rfl)⟩
    · skip
      refine j_bipush (v := (-2)) (pc := 9) hX dX8_shared_9 (by decide) ?_
      exact j_iret (pc := 11) hX hQ dX8_shared_11 rfl ⟨z, (by first | rfl | first | (simp only [jb_t, jb_f, rShared, hasC, c1_1, c6_2, reduceIte, eq_self, decide_true, decide_false, Bool.and_true, Bool.true_and, Bool.and_false, Bool.false_and, Bool.and_self, not_true_eq_false, not_false_eq_true, and_true, true_and, and_false, false_and, and_self]; done) | (simp [jb_t, jb_f, rShared, hasC, c1_1, c6_2]; done)), (rfl)⟩

set_option maxHeartbeats 4000000 in
set_option maxRecDepth 100000 in
theorem c_X8_greedy (g : jG) (ax : Nat) (q : adT) (h : Nat) (sl : Nat) (p : Nat) (s : Nat) (gr : Nat) (e : Nat) (v : StT) (g1 : Int32) (g2 : Int32) (w0 : Int32) (hv : v.2.1 ≤ 14) : jMI g yX8_greedy cX8_greedy 2 .int 4 88 [.ref ax, .int w0] [(ax, .inr (8, [.ref q.1, .ref h, .ref sl, .ref p, .ref s, .ref gr, .ref e])), (q.1, .inr (6, [.int v.1, .int (nI v.2.1), .ref q.2.1, .ref q.2.2.1, .ref q.2.2.2])), (q.2.1, .inl (gI g, 14, .inl v.2.2.1)), (q.2.2.1, .inl (gI g, 14, .inl v.2.2.2.1)), (q.2.2.2, .inl (gI g, 14, .inl v.2.2.2.2)), (gr, .inr (0, [.int g1, .int g2]))] (fun rz wz => ∃ g3 : Int32, ∃ g4 : Int32, rz = rGreedy v w0 ∧ wz = [(ax, .inr (8, [.ref q.1, .ref h, .ref sl, .ref p, .ref s, .ref gr, .ref e])), (q.1, .inr (6, [.int v.1, .int (nI v.2.1), .ref q.2.1, .ref q.2.2.1, .ref q.2.2.2])), (q.2.1, .inl (gI g, 14, .inl v.2.2.1)), (q.2.2.1, .inl (gI g, 14, .inl v.2.2.2.1)), (q.2.2.2, .inl (gI g, 14, .inl v.2.2.2.2)), (gr, .inr (0, [.int g3, .int g4]))]) := by
  refine jMI.intro (by decide +kernel) (Nat.le_of_ble_eq_true rfl) (fun x hX hQ => ?_)
  refine j_lv (lv2 := [(0, .ref ax), (1, .int w0)]) rfl ?_
  refine j_iload_n (pc := 0) hX dX8_greedy_0 1 rfl ?_
  refine j_if_lt (tgt := 9) (pc := 1) hX dX8_greedy_1 (by decide) (fun c1_1 => ?_) (fun c1_1 => ?_)
  · skip
    refine j_bipush (v := (-2)) (pc := 9) hX dX8_greedy_9 (by decide) ?_
    exact j_iret (pc := 11) hX hQ dX8_greedy_11 rfl ⟨g1, g2, (by first | rfl | first | (simp only [jb_t, jb_f, rGreedy, hasC, gR, c1_1, reduceIte, eq_self, decide_true, decide_false, Bool.and_true, Bool.true_and, Bool.and_false, Bool.false_and, Bool.and_self, not_true_eq_false, not_false_eq_true, and_true, true_and, and_false, false_and, and_self]; done) | (simp [jb_t, jb_f, rGreedy, hasC, gR, c1_1]; done)), (rfl)⟩
  · skip
    refine j_iload_n (pc := 4) hX dX8_greedy_4 1 rfl ?_
    refine j_iconst (v := 2) (pc := 5) hX dX8_greedy_5 (by decide) ?_
    refine j_icmp_le (tgt := 12) (pc := 6) hX dX8_greedy_6 (by decide) (fun c6_2 => ?_) (fun c6_2 => ?_)
    · skip
      refine j_aload_n (pc := 12) hX dX8_greedy_12 0 rfl ?_
      refine j_get (ci := 8) (pc := 13) hX inG8 rfl 0 (by decide) mw210 0 rfl rfl dX8_greedy_13 ?_
      refine j_callVI (n := 0) (As := []) (rest := []) (pc := 16) hX (c_X6_hasCover g q.1 q.2.1 q.2.2.1 q.2.2.2 v.1 v.2.1 v.2.2.1 v.2.2.2.1 v.2.2.2.2 (by first | assumption | omega)) (CV.of mw251 mw252 mw253 mw14 mw254 ⟨rfl, by decide +kernel, by decide +kernel, by decide +kernel⟩ (T := TX6) (N := 5) rfl) (Nat.le_of_ble_eq_true rfl) (Nat.le_of_ble_eq_true rfl) (Nat.le_of_ble_eq_true rfl) (Nat.le_of_ble_eq_true rfl) 1 rfl [1, 2, 3, 4] (by decide +kernel) rfl rfl rfl (Nat.le_of_ble_eq_true rfl) dX8_greedy_16 (fun r3 wz hq4 => ?_)
      obtain ⟨rfl, rfl⟩ := hq4
      refine j_ws (ws2 := [(ax, .inr (8, [.ref q.1, .ref h, .ref sl, .ref p, .ref s, .ref gr, .ref e])), (q.1, .inr (6, [.int v.1, .int (nI v.2.1), .ref q.2.1, .ref q.2.2.1, .ref q.2.2.2])), (q.2.1, .inl (gI g, 14, .inl v.2.2.1)), (q.2.2.1, .inl (gI g, 14, .inl v.2.2.2.1)), (q.2.2.2, .inl (gI g, 14, .inl v.2.2.2.2)), (gr, .inr (0, [.int g1, .int g2]))]) rfl ?_
      refine j_if_ne (tgt := 25) (pc := 19) hX dX8_greedy_19 (by decide) (fun c19_5 => ?_) (fun c19_5 => ?_)
      · skip
        have c19_5b : (S_has v.2.2.1 v.2.2.2.2 v.1 v.2.1) = true := jb_1.mp c19_5
        refine j_aload_n (pc := 25) hX dX8_greedy_25 0 rfl ?_
        refine j_get (ci := 8) (pc := 26) hX inG8 rfl 5 (by decide) mw215 0 rfl rfl dX8_greedy_26 ?_
        refine j_aload_n (pc := 29) hX dX8_greedy_29 0 rfl ?_
        refine j_get (ci := 8) (pc := 30) hX inG8 rfl 0 (by decide) mw210 0 rfl rfl dX8_greedy_30 ?_
        refine j_callVV (n := 1) (As := [.ref q.1]) (rest := []) (pc := 33) hX (c_X0_choose g gr g1 g2 q v (by first | assumption | omega)) (CV.of mw382 mw383 mw384 mw19 mw385 ⟨rfl, by decide +kernel, by decide +kernel, by decide +kernel⟩ (T := TX0) (N := 2) rfl) (Nat.le_of_ble_eq_true rfl) (Nat.le_of_ble_eq_true rfl) (Nat.le_of_ble_eq_true rfl) (Nat.le_of_ble_eq_true rfl) 5 rfl [5, 1, 2, 3, 4] (by decide +kernel) rfl rfl rfl (Nat.le_of_ble_eq_true rfl) dX8_greedy_33 (fun wz wnz hq7 => ?_)
        obtain ⟨rfl, rfl⟩ := hq7
        refine j_ws (ws2 := [(ax, .inr (8, [.ref q.1, .ref h, .ref sl, .ref p, .ref s, .ref gr, .ref e])), (q.1, .inr (6, [.int v.1, .int (nI v.2.1), .ref q.2.1, .ref q.2.2.1, .ref q.2.2.2])), (q.2.1, .inl (gI g, 14, .inl v.2.2.1)), (q.2.2.1, .inl (gI g, 14, .inl v.2.2.2.1)), (q.2.2.2, .inl (gI g, 14, .inl v.2.2.2.2)), (gr, .inr (0, [.int ((gCh v 14 (gS0 v)).1), .int ((gCh v 14 (gS0 v)).2)]))]) rfl ?_
        refine j_iload_n (pc := 36) hX dX8_greedy_36 1 rfl ?_
        by_cases s37_8 : w0 = 0
        · refine j_look (off := 27) (tgt := 64) (pc := 37) hX dX8_greedy_37 (by decide) (by rw [s37_8]; decide) (by decide) ?_
          refine j_aload_n (pc := 64) hX dX8_greedy_64 0 rfl ?_
          refine j_get (ci := 8) (pc := 65) hX inG8 rfl 5 (by decide) mw215 0 rfl rfl dX8_greedy_65 ?_
          refine j_getN (ci := 0) (pc := 68) hX inG0 rfl 0 (by decide) mw159 5 rfl rfl dX8_greedy_68 ?_
          exact j_iret (pc := 71) hX hQ dX8_greedy_71 rfl ⟨(gCh v 14 (gS0 v)).1, (gCh v 14 (gS0 v)).2, (by first | rfl | first | (simp (decide := true) only [jb_t, jb_f, rGreedy, hasC, gR, c1_1, c6_2, c19_5, c19_5b, s37_8, reduceIte, eq_self, decide_true, decide_false, Bool.and_true, Bool.true_and, Bool.and_false, Bool.false_and, Bool.and_self, not_true_eq_false, not_false_eq_true, and_true, true_and, and_false, false_and, and_self]; done) | (simp [jb_t, jb_f, rGreedy, hasC, gR, c1_1, c6_2, c19_5, c19_5b, s37_8]; done)), (rfl)⟩
        by_cases s37_9 : w0 = 1
        · refine j_look (off := 35) (tgt := 72) (pc := 37) hX dX8_greedy_37 (by decide) (by rw [s37_9]; decide) (by decide) ?_
          refine j_aload_n (pc := 72) hX dX8_greedy_72 0 rfl ?_
          refine j_get (ci := 8) (pc := 73) hX inG8 rfl 0 (by decide) mw210 0 rfl rfl dX8_greedy_73 ?_
          refine j_aload_n (pc := 76) hX dX8_greedy_76 0 rfl ?_
          refine j_get (ci := 8) (pc := 77) hX inG8 rfl 5 (by decide) mw215 0 rfl rfl dX8_greedy_77 ?_
          refine j_getN (ci := 0) (pc := 80) hX inG0 rfl 0 (by decide) mw159 5 rfl rfl dX8_greedy_80 ?_
          refine j_callVI (n := 1) (As := [.int ((gCh v 14 (gS0 v)).1)]) (rest := []) (pc := 83) hX (c_X6_priceOf g q.1 q.2.1 q.2.2.1 q.2.2.2 v.1 v.2.1 v.2.2.1 v.2.2.2.1 v.2.2.2.2 ((gCh v 14 (gS0 v)).1) (by first | assumption | omega)) (CV.of mw361 mw362 mw363 mw14 mw364 ⟨rfl, by decide +kernel, by decide +kernel, by decide +kernel⟩ (T := TX6) (N := 5) rfl) (Nat.le_of_ble_eq_true rfl) (Nat.le_of_ble_eq_true rfl) (Nat.le_of_ble_eq_true rfl) (Nat.le_of_ble_eq_true rfl) 1 rfl [1, 2, 3, 4] (by decide +kernel) rfl rfl rfl (Nat.le_of_ble_eq_true rfl) dX8_greedy_83 (fun r10 wz hq11 => ?_)
          obtain ⟨rfl, rfl⟩ := hq11
          refine j_ws (ws2 := [(ax, .inr (8, [.ref q.1, .ref h, .ref sl, .ref p, .ref s, .ref gr, .ref e])), (q.1, .inr (6, [.int v.1, .int (nI v.2.1), .ref q.2.1, .ref q.2.2.1, .ref q.2.2.2])), (q.2.1, .inl (gI g, 14, .inl v.2.2.1)), (q.2.2.1, .inl (gI g, 14, .inl v.2.2.2.1)), (q.2.2.2, .inl (gI g, 14, .inl v.2.2.2.2)), (gr, .inr (0, [.int ((gCh v 14 (gS0 v)).1), .int ((gCh v 14 (gS0 v)).2)]))]) rfl ?_
          exact j_iret (pc := 86) hX hQ dX8_greedy_86 rfl ⟨(gCh v 14 (gS0 v)).1, (gCh v 14 (gS0 v)).2, (by first | rfl | first | (simp (decide := true) only [jb_t, jb_f, rGreedy, hasC, gR, c1_1, c6_2, c19_5, c19_5b, s37_8, s37_9, reduceIte, eq_self, decide_true, decide_false, Bool.and_true, Bool.true_and, Bool.and_false, Bool.false_and, Bool.and_self, not_true_eq_false, not_false_eq_true, and_true, true_and, and_false, false_and, and_self]; done) | (simp [jb_t, jb_f, rGreedy, hasC, gR, c1_1, c6_2, c19_5, c19_5b, s37_8, s37_9]; done)), (rfl)⟩
        refine j_look (off := 50) (tgt := 87) (pc := 37) hX dX8_greedy_37 (by decide) ((lv_osw s37_8 (by decide)).trans ((lv_osw s37_9 (by decide)).trans (rfl))) (by decide) ?_
        refine j_aload_n (pc := 87) hX dX8_greedy_87 0 rfl ?_
        refine j_get (ci := 8) (pc := 88) hX inG8 rfl 5 (by decide) mw215 0 rfl rfl dX8_greedy_88 ?_
        refine j_getN (ci := 0) (pc := 91) hX inG0 rfl 1 (by decide) mw161 5 rfl rfl dX8_greedy_91 ?_
        exact j_iret (pc := 94) hX hQ dX8_greedy_94 rfl ⟨(gCh v 14 (gS0 v)).1, (gCh v 14 (gS0 v)).2, (by first | rfl | first | (simp (decide := true) only [jb_t, jb_f, rGreedy, hasC, gR, c1_1, c6_2, c19_5, c19_5b, s37_8, s37_9, reduceIte, eq_self, decide_true, decide_false, Bool.and_true, Bool.true_and, Bool.and_false, Bool.false_and, Bool.and_self, not_true_eq_false, not_false_eq_true, and_true, true_and, and_false, false_and, and_self]; done) | (simp [jb_t, jb_f, rGreedy, hasC, gR, c1_1, c6_2, c19_5, c19_5b, s37_8, s37_9]; done)), (rfl)⟩
      · skip
        have c19_5b : (S_has v.2.2.1 v.2.2.2.2 v.1 v.2.1) = false := jb_0.mp c19_5
        refine j_bipush (v := (-5)) (pc := 22) hX dX8_greedy_22 (by decide) ?_
        exact j_iret (pc := 24) hX hQ dX8_greedy_24 rfl ⟨g1, g2, (by first | rfl | first | (simp only [jb_t, jb_f, rGreedy, hasC, gR, c1_1, c6_2, c19_5, c19_5b, reduceIte, eq_self, decide_true, decide_false, Bool.and_true, Bool.true_and, Bool.and_false, Bool.false_and, Bool.and_self, not_true_eq_false, not_false_eq_true, and_true, true_and, and_false, false_and, and_self]; done) | (simp [jb_t, jb_f, rGreedy, hasC, gR, c1_1, c6_2, c19_5, c19_5b]; done)), (rfl)⟩
    · skip
      refine j_bipush (v := (-2)) (pc := 9) hX dX8_greedy_9 (by decide) ?_
      exact j_iret (pc := 11) hX hQ dX8_greedy_11 rfl ⟨g1, g2, (by first | rfl | first | (simp only [jb_t, jb_f, rGreedy, hasC, gR, c1_1, c6_2, reduceIte, eq_self, decide_true, decide_false, Bool.and_true, Bool.true_and, Bool.and_false, Bool.false_and, Bool.and_self, not_true_eq_false, not_false_eq_true, and_true, true_and, and_false, false_and, and_self]; done) | (simp [jb_t, jb_f, rGreedy, hasC, gR, c1_1, c6_2]; done)), (rfl)⟩

set_option maxHeartbeats 4000000 in
set_option maxRecDepth 100000 in
theorem c_X8_least (g : jG) (ax : Nat) (q : adT) (h : Nat) (sl : Nat) (p : Nat) (s : Nat) (gr : Nat) (e : Nat) (v : StT) (e1 : Nat) (u : SET) (k : Nat) (k1 : Nat) (k2 : Nat) (k3 : Nat) (k4 : Nat) (k5 : Nat) (k6 : Nat) (k7 : Nat) (z : WT) (w0 : Int32) (hv : v.2.1 ≤ 14) : jMI g yX8_least cX8_least 2 .int 4 85 [.ref ax, .int w0] [(ax, .inr (8, [.ref q.1, .ref h, .ref sl, .ref p, .ref s, .ref gr, .ref e])), (q.1, .inr (6, [.int v.1, .int (nI v.2.1), .ref q.2.1, .ref q.2.2.1, .ref q.2.2.2])), (q.2.1, .inl (gI g, 14, .inl v.2.2.1)), (q.2.2.1, .inl (gI g, 14, .inl v.2.2.2.1)), (q.2.2.2, .inl (gI g, 14, .inl v.2.2.2.2)), (e, .inr (3, [.ref k, .int u.1, .int u.2.1, .int u.2.2.1, .int u.2.2.2.1, .ref e1])), (e1, .inl (gI g, 18, .inl u.2.2.2.2)), (k, .inr (7, [.int z.1, .int (nI z.2.1), .ref k1, .ref k2, .ref k3, .ref k4, .ref k5, .ref k6, .ref k7])), (k1, .inl (gI g, 14, .inl z.2.2.1)), (k2, .inl (gI g, 14, .inl z.2.2.2.1)), (k3, .inl (gI g, 14, .inl z.2.2.2.2.1)), (k4, .inl (gI g, 15, .inl z.2.2.2.2.2.1)), (k5, .inl (gI g, 15, .inl z.2.2.2.2.2.2.1)), (k6, .inl (gI g, 15, .inl z.2.2.2.2.2.2.2.1)), (k7, .inl (gI g, 15, .inl z.2.2.2.2.2.2.2.2))] (fun rz wz => ∃ u1 : SET, ∃ z1 : WT, rz = rLeast v z w0 ∧ wz = [(ax, .inr (8, [.ref q.1, .ref h, .ref sl, .ref p, .ref s, .ref gr, .ref e])), (q.1, .inr (6, [.int v.1, .int (nI v.2.1), .ref q.2.1, .ref q.2.2.1, .ref q.2.2.2])), (q.2.1, .inl (gI g, 14, .inl v.2.2.1)), (q.2.2.1, .inl (gI g, 14, .inl v.2.2.2.1)), (q.2.2.2, .inl (gI g, 14, .inl v.2.2.2.2)), (e, .inr (3, [.ref k, .int u1.1, .int u1.2.1, .int u1.2.2.1, .int u1.2.2.2.1, .ref e1])), (e1, .inl (gI g, 18, .inl u1.2.2.2.2)), (k, .inr (7, [.int z1.1, .int (nI z1.2.1), .ref k1, .ref k2, .ref k3, .ref k4, .ref k5, .ref k6, .ref k7])), (k1, .inl (gI g, 14, .inl z1.2.2.1)), (k2, .inl (gI g, 14, .inl z1.2.2.2.1)), (k3, .inl (gI g, 14, .inl z1.2.2.2.2.1)), (k4, .inl (gI g, 15, .inl z1.2.2.2.2.2.1)), (k5, .inl (gI g, 15, .inl z1.2.2.2.2.2.2.1)), (k6, .inl (gI g, 15, .inl z1.2.2.2.2.2.2.2.1)), (k7, .inl (gI g, 15, .inl z1.2.2.2.2.2.2.2.2))]) := by
  refine jMI.intro (by decide +kernel) (Nat.le_of_ble_eq_true rfl) (fun x hX hQ => ?_)
  refine j_lv (lv2 := [(0, .ref ax), (1, .int w0)]) rfl ?_
  refine j_iload_n (pc := 0) hX dX8_least_0 1 rfl ?_
  refine j_if_lt (tgt := 9) (pc := 1) hX dX8_least_1 (by decide) (fun c1_1 => ?_) (fun c1_1 => ?_)
  · skip
    refine j_bipush (v := (-2)) (pc := 9) hX dX8_least_9 (by decide) ?_
    exact j_iret (pc := 11) hX hQ dX8_least_11 rfl ⟨u, z, (by first | rfl | first | (simp only [jb_t, jb_f, rLeast, hasC, c1_1, reduceIte, eq_self, decide_true, decide_false, Bool.and_true, Bool.true_and, Bool.and_false, Bool.false_and, Bool.and_self, not_true_eq_false, not_false_eq_true, and_true, true_and, and_false, false_and, and_self]; done) | (simp [jb_t, jb_f, rLeast, hasC, c1_1]; done)), (rfl)⟩
  · skip
    refine j_iload_n (pc := 4) hX dX8_least_4 1 rfl ?_
    refine j_iconst (v := 1) (pc := 5) hX dX8_least_5 (by decide) ?_
    refine j_icmp_le (tgt := 12) (pc := 6) hX dX8_least_6 (by decide) (fun c6_2 => ?_) (fun c6_2 => ?_)
    · skip
      refine j_aload_n (pc := 12) hX dX8_least_12 0 rfl ?_
      refine j_get (ci := 8) (pc := 13) hX inG8 rfl 0 (by decide) mw210 0 rfl rfl dX8_least_13 ?_
      refine j_callVI (n := 0) (As := []) (rest := []) (pc := 16) hX (c_X6_hasCover g q.1 q.2.1 q.2.2.1 q.2.2.2 v.1 v.2.1 v.2.2.1 v.2.2.2.1 v.2.2.2.2 (by first | assumption | omega)) (CV.of mw251 mw252 mw253 mw14 mw254 ⟨rfl, by decide +kernel, by decide +kernel, by decide +kernel⟩ (T := TX6) (N := 5) rfl) (Nat.le_of_ble_eq_true rfl) (Nat.le_of_ble_eq_true rfl) (Nat.le_of_ble_eq_true rfl) (Nat.le_of_ble_eq_true rfl) 1 rfl [1, 2, 3, 4] (by decide +kernel) rfl rfl rfl (Nat.le_of_ble_eq_true rfl) dX8_least_16 (fun r3 wz hq4 => ?_)
      obtain ⟨rfl, rfl⟩ := hq4
      refine j_ws (ws2 := [(ax, .inr (8, [.ref q.1, .ref h, .ref sl, .ref p, .ref s, .ref gr, .ref e])), (q.1, .inr (6, [.int v.1, .int (nI v.2.1), .ref q.2.1, .ref q.2.2.1, .ref q.2.2.2])), (q.2.1, .inl (gI g, 14, .inl v.2.2.1)), (q.2.2.1, .inl (gI g, 14, .inl v.2.2.2.1)), (q.2.2.2, .inl (gI g, 14, .inl v.2.2.2.2)), (e, .inr (3, [.ref k, .int u.1, .int u.2.1, .int u.2.2.1, .int u.2.2.2.1, .ref e1])), (e1, .inl (gI g, 18, .inl u.2.2.2.2)), (k, .inr (7, [.int z.1, .int (nI z.2.1), .ref k1, .ref k2, .ref k3, .ref k4, .ref k5, .ref k6, .ref k7])), (k1, .inl (gI g, 14, .inl z.2.2.1)), (k2, .inl (gI g, 14, .inl z.2.2.2.1)), (k3, .inl (gI g, 14, .inl z.2.2.2.2.1)), (k4, .inl (gI g, 15, .inl z.2.2.2.2.2.1)), (k5, .inl (gI g, 15, .inl z.2.2.2.2.2.2.1)), (k6, .inl (gI g, 15, .inl z.2.2.2.2.2.2.2.1)), (k7, .inl (gI g, 15, .inl z.2.2.2.2.2.2.2.2))]) rfl ?_
      refine j_if_ne (tgt := 25) (pc := 19) hX dX8_least_19 (by decide) (fun c19_5 => ?_) (fun c19_5 => ?_)
      · skip
        have c19_5b : (S_has v.2.2.1 v.2.2.2.2 v.1 v.2.1) = true := jb_1.mp c19_5
        refine j_aload_n (pc := 25) hX dX8_least_25 0 rfl ?_
        refine j_get (ci := 8) (pc := 26) hX inG8 rfl 6 (by decide) mw216 0 rfl rfl dX8_least_26 ?_
        refine j_aload_n (pc := 29) hX dX8_least_29 0 rfl ?_
        refine j_get (ci := 8) (pc := 30) hX inG8 rfl 0 (by decide) mw210 0 rfl rfl dX8_least_30 ?_
        refine j_callVV (n := 1) (As := [.ref q.1]) (rest := []) (pc := 33) hX (c_X3_findLeast g e e1 u k k1 k2 k3 k4 k5 k6 k7 z q v (by first | assumption | omega)) (CV.of mw396 mw397 mw398 mw20 mw399 ⟨rfl, by decide +kernel, by decide +kernel, by decide +kernel⟩ (T := TX3) (N := 6) rfl) (Nat.le_of_ble_eq_true rfl) (Nat.le_of_ble_eq_true rfl) (Nat.le_of_ble_eq_true rfl) (Nat.le_of_ble_eq_true rfl) 5 rfl [5, 6, 7, 8, 9, 10, 11, 12, 13, 14, 1, 2, 3, 4] (by decide +kernel) rfl rfl rfl (Nat.le_of_ble_eq_true rfl) dX8_least_33 (fun wz wnz hq7 => ?_)
        obtain ⟨rfl, rfl⟩ := hq7
        refine j_ws (ws2 := [(ax, .inr (8, [.ref q.1, .ref h, .ref sl, .ref p, .ref s, .ref gr, .ref e])), (q.1, .inr (6, [.int v.1, .int (nI v.2.1), .ref q.2.1, .ref q.2.2.1, .ref q.2.2.2])), (q.2.1, .inl (gI g, 14, .inl v.2.2.1)), (q.2.2.1, .inl (gI g, 14, .inl v.2.2.2.1)), (q.2.2.2, .inl (gI g, 14, .inl v.2.2.2.2)), (e, .inr (3, [.ref k, .int ((fL v z (wN v z)).1), .int ((fL v z (wN v z)).2), .int u.2.2.1, .int u.2.2.2.1, .ref e1])), (e1, .inl (gI g, 18, .inl u.2.2.2.2)), (k, .inr (7, [.int ((wG v z (wN v z)).1), .int (nI ((wG v z (wN v z)).2.1)), .ref k1, .ref k2, .ref k3, .ref k4, .ref k5, .ref k6, .ref k7])), (k1, .inl (gI g, 14, .inl ((wG v z (wN v z)).2.2.1))), (k2, .inl (gI g, 14, .inl ((wG v z (wN v z)).2.2.2.1))), (k3, .inl (gI g, 14, .inl ((wG v z (wN v z)).2.2.2.2.1))), (k4, .inl (gI g, 15, .inl ((wG v z (wN v z)).2.2.2.2.2.1))), (k5, .inl (gI g, 15, .inl ((wG v z (wN v z)).2.2.2.2.2.2.1))), (k6, .inl (gI g, 15, .inl ((wG v z (wN v z)).2.2.2.2.2.2.2.1))), (k7, .inl (gI g, 15, .inl ((wG v z (wN v z)).2.2.2.2.2.2.2.2)))]) rfl ?_
        refine j_iload_n (pc := 36) hX dX8_least_36 1 rfl ?_
        refine j_if_ne (tgt := 50) (pc := 37) hX dX8_least_37 (by decide) (fun c37_8 => ?_) (fun c37_8 => ?_)
        · skip
          refine j_aload_n (pc := 50) hX dX8_least_50 0 rfl ?_
          refine j_get (ci := 8) (pc := 51) hX inG8 rfl 6 (by decide) mw216 0 rfl rfl dX8_least_51 ?_
          refine j_getN (ci := 3) (pc := 54) hX inG3 rfl 2 (by decide) mw198 5 rfl rfl dX8_least_54 ?_
          exact j_iret (pc := 57) hX hQ dX8_least_57 rfl ⟨((fL v z (wN v z)).1, (fL v z (wN v z)).2, u.2.2.1, u.2.2.2.1, u.2.2.2.2), (wG v z (wN v z)), (by first | rfl | first | (simp only [jb_t, jb_f, rLeast, hasC, c1_1, c6_2, c19_5, c19_5b, c37_8, reduceIte, eq_self, decide_true, decide_false, Bool.and_true, Bool.true_and, Bool.and_false, Bool.false_and, Bool.and_self, not_true_eq_false, not_false_eq_true, and_true, true_and, and_false, false_and, and_self]; done) | (simp [jb_t, jb_f, rLeast, hasC, c1_1, c6_2, c19_5, c19_5b, c37_8]; done)), (rfl)⟩
        · skip
          refine j_aload_n (pc := 40) hX dX8_least_40 0 rfl ?_
          refine j_get (ci := 8) (pc := 41) hX inG8 rfl 6 (by decide) mw216 0 rfl rfl dX8_least_41 ?_
          refine j_getN (ci := 3) (pc := 44) hX inG3 rfl 1 (by decide) mw196 5 rfl rfl dX8_least_44 ?_
          refine j_goto (tgt := 57) (pc := 47) hX dX8_least_47 (by decide) ?_
          exact j_iret (pc := 57) hX hQ dX8_least_57 rfl ⟨((fL v z (wN v z)).1, (fL v z (wN v z)).2, u.2.2.1, u.2.2.2.1, u.2.2.2.2), (wG v z (wN v z)), (by first | rfl | first | (simp only [jb_t, jb_f, rLeast, hasC, c1_1, c6_2, c19_5, c19_5b, c37_8, reduceIte, eq_self, decide_true, decide_false, Bool.and_true, Bool.true_and, Bool.and_false, Bool.false_and, Bool.and_self, not_true_eq_false, not_false_eq_true, and_true, true_and, and_false, false_and, and_self]; done) | (simp [jb_t, jb_f, rLeast, hasC, c1_1, c6_2, c19_5, c19_5b, c37_8]; done)), (rfl)⟩
      · skip
        have c19_5b : (S_has v.2.2.1 v.2.2.2.2 v.1 v.2.1) = false := jb_0.mp c19_5
        refine j_bipush (v := (-5)) (pc := 22) hX dX8_least_22 (by decide) ?_
        exact j_iret (pc := 24) hX hQ dX8_least_24 rfl ⟨u, z, (by first | rfl | first | (simp only [jb_t, jb_f, rLeast, hasC, c1_1, c6_2, c19_5, c19_5b, reduceIte, eq_self, decide_true, decide_false, Bool.and_true, Bool.true_and, Bool.and_false, Bool.false_and, Bool.and_self, not_true_eq_false, not_false_eq_true, and_true, true_and, and_false, false_and, and_self]; done) | (simp [jb_t, jb_f, rLeast, hasC, c1_1, c6_2, c19_5, c19_5b]; done)), (rfl)⟩
    · skip
      refine j_bipush (v := (-2)) (pc := 9) hX dX8_least_9 (by decide) ?_
      exact j_iret (pc := 11) hX hQ dX8_least_11 rfl ⟨u, z, (by first | rfl | first | (simp only [jb_t, jb_f, rLeast, hasC, c1_1, c6_2, reduceIte, eq_self, decide_true, decide_false, Bool.and_true, Bool.true_and, Bool.and_false, Bool.false_and, Bool.and_self, not_true_eq_false, not_false_eq_true, and_true, true_and, and_false, false_and, and_self]; done) | (simp [jb_t, jb_f, rLeast, hasC, c1_1, c6_2]; done)), (rfl)⟩

set_option maxHeartbeats 4000000 in
set_option maxRecDepth 100000 in
theorem c_X8_covers (g : jG) (ax : Nat) (q : adT) (h : Nat) (sl : Nat) (p : Nat) (s : Nat) (gr : Nat) (e : Nat) (v : StT) (e1 : Nat) (u : SET) (k : Nat) (k1 : Nat) (k2 : Nat) (k3 : Nat) (k4 : Nat) (k5 : Nat) (k6 : Nat) (k7 : Nat) (z : WT) (w0 : Int32) (hv : v.2.1 ≤ 14) : jMI g yX8_covers cX8_covers 2 .int 3 73 [.ref ax, .int w0] [(ax, .inr (8, [.ref q.1, .ref h, .ref sl, .ref p, .ref s, .ref gr, .ref e])), (q.1, .inr (6, [.int v.1, .int (nI v.2.1), .ref q.2.1, .ref q.2.2.1, .ref q.2.2.2])), (q.2.1, .inl (gI g, 14, .inl v.2.2.1)), (q.2.2.1, .inl (gI g, 14, .inl v.2.2.2.1)), (q.2.2.2, .inl (gI g, 14, .inl v.2.2.2.2)), (e, .inr (3, [.ref k, .int u.1, .int u.2.1, .int u.2.2.1, .int u.2.2.2.1, .ref e1])), (e1, .inl (gI g, 18, .inl u.2.2.2.2)), (k, .inr (7, [.int z.1, .int (nI z.2.1), .ref k1, .ref k2, .ref k3, .ref k4, .ref k5, .ref k6, .ref k7])), (k1, .inl (gI g, 14, .inl z.2.2.1)), (k2, .inl (gI g, 14, .inl z.2.2.2.1)), (k3, .inl (gI g, 14, .inl z.2.2.2.2.1)), (k4, .inl (gI g, 15, .inl z.2.2.2.2.2.1)), (k5, .inl (gI g, 15, .inl z.2.2.2.2.2.2.1)), (k6, .inl (gI g, 15, .inl z.2.2.2.2.2.2.2.1)), (k7, .inl (gI g, 15, .inl z.2.2.2.2.2.2.2.2))] (fun rz wz => ∃ u1 : SET, ∃ z1 : WT, rz = rCovers v z w0 ∧ wz = [(ax, .inr (8, [.ref q.1, .ref h, .ref sl, .ref p, .ref s, .ref gr, .ref e])), (q.1, .inr (6, [.int v.1, .int (nI v.2.1), .ref q.2.1, .ref q.2.2.1, .ref q.2.2.2])), (q.2.1, .inl (gI g, 14, .inl v.2.2.1)), (q.2.2.1, .inl (gI g, 14, .inl v.2.2.2.1)), (q.2.2.2, .inl (gI g, 14, .inl v.2.2.2.2)), (e, .inr (3, [.ref k, .int u1.1, .int u1.2.1, .int u1.2.2.1, .int u1.2.2.2.1, .ref e1])), (e1, .inl (gI g, 18, .inl u1.2.2.2.2)), (k, .inr (7, [.int z1.1, .int (nI z1.2.1), .ref k1, .ref k2, .ref k3, .ref k4, .ref k5, .ref k6, .ref k7])), (k1, .inl (gI g, 14, .inl z1.2.2.1)), (k2, .inl (gI g, 14, .inl z1.2.2.2.1)), (k3, .inl (gI g, 14, .inl z1.2.2.2.2.1)), (k4, .inl (gI g, 15, .inl z1.2.2.2.2.2.1)), (k5, .inl (gI g, 15, .inl z1.2.2.2.2.2.2.1)), (k6, .inl (gI g, 15, .inl z1.2.2.2.2.2.2.2.1)), (k7, .inl (gI g, 15, .inl z1.2.2.2.2.2.2.2.2))]) := by
  refine jMI.intro (by decide +kernel) (Nat.le_of_ble_eq_true rfl) (fun x hX hQ => ?_)
  refine j_lv (lv2 := [(0, .ref ax), (1, .int w0)]) rfl ?_
  refine j_iload_n (pc := 0) hX dX8_covers_0 1 rfl ?_
  refine j_if_lt (tgt := 11) (pc := 1) hX dX8_covers_1 (by decide) (fun c1_1 => ?_) (fun c1_1 => ?_)
  · skip
    refine j_bipush (v := (-2)) (pc := 11) hX dX8_covers_11 (by decide) ?_
    exact j_iret (pc := 13) hX hQ dX8_covers_13 rfl ⟨u, z, (by first | rfl | first | (simp only [jb_t, jb_f, rCovers, c1_1, reduceIte, eq_self, decide_true, decide_false, Bool.and_true, Bool.true_and, Bool.and_false, Bool.false_and, Bool.and_self, not_true_eq_false, not_false_eq_true, and_true, true_and, and_false, false_and, and_self]; done) | (simp [jb_t, jb_f, rCovers, c1_1]; done)), (rfl)⟩
  · skip
    refine j_iload_n (pc := 4) hX dX8_covers_4 1 rfl ?_
    refine j_sipush (v := 7000) (pc := 5) hX dX8_covers_5 (by decide) ?_
    refine j_icmp_le (tgt := 14) (pc := 8) hX dX8_covers_8 (by decide) (fun c8_2 => ?_) (fun c8_2 => ?_)
    · skip
      refine j_aload_n (pc := 14) hX dX8_covers_14 0 rfl ?_
      refine j_get (ci := 8) (pc := 15) hX inG8 rfl 6 (by decide) mw216 0 rfl rfl dX8_covers_15 ?_
      refine j_aload_n (pc := 18) hX dX8_covers_18 0 rfl ?_
      refine j_get (ci := 8) (pc := 19) hX inG8 rfl 0 (by decide) mw210 0 rfl rfl dX8_covers_19 ?_
      refine j_iload_n (pc := 22) hX dX8_covers_22 1 rfl ?_
      refine j_callVI (n := 2) (As := [.ref q.1, .int w0]) (rest := []) (pc := 23) hX (c_X3_countUpTo g e e1 u k k1 k2 k3 k4 k5 k6 k7 z q v w0 (by first | assumption | omega)) (CV.of mw440 mw441 mw442 mw20 mw443 ⟨rfl, by decide +kernel, by decide +kernel, by decide +kernel⟩ (T := TX3) (N := 6) rfl) (Nat.le_of_ble_eq_true rfl) (Nat.le_of_ble_eq_true rfl) (Nat.le_of_ble_eq_true rfl) (Nat.le_of_ble_eq_true rfl) 5 rfl [5, 6, 7, 8, 9, 10, 11, 12, 13, 14, 1, 2, 3, 4] (by decide +kernel) rfl rfl rfl (Nat.le_of_ble_eq_true rfl) dX8_covers_23 (fun r3 wz hq4 => ?_)
      obtain ⟨rfl, rfl⟩ := hq4
      refine j_ws (ws2 := [(ax, .inr (8, [.ref q.1, .ref h, .ref sl, .ref p, .ref s, .ref gr, .ref e])), (q.1, .inr (6, [.int v.1, .int (nI v.2.1), .ref q.2.1, .ref q.2.2.1, .ref q.2.2.2])), (q.2.1, .inl (gI g, 14, .inl v.2.2.1)), (q.2.2.1, .inl (gI g, 14, .inl v.2.2.2.1)), (q.2.2.2, .inl (gI g, 14, .inl v.2.2.2.2)), (e, .inr (3, [.ref k, .int u.1, .int u.2.1, .int u.2.2.1, .int u.2.2.2.1, .ref e1])), (e1, .inl (gI g, 18, .inl u.2.2.2.2)), (k, .inr (7, [.int ((wG v z (wN v z)).1), .int (nI ((wG v z (wN v z)).2.1)), .ref k1, .ref k2, .ref k3, .ref k4, .ref k5, .ref k6, .ref k7])), (k1, .inl (gI g, 14, .inl ((wG v z (wN v z)).2.2.1))), (k2, .inl (gI g, 14, .inl ((wG v z (wN v z)).2.2.2.1))), (k3, .inl (gI g, 14, .inl ((wG v z (wN v z)).2.2.2.2.1))), (k4, .inl (gI g, 15, .inl ((wG v z (wN v z)).2.2.2.2.2.1))), (k5, .inl (gI g, 15, .inl ((wG v z (wN v z)).2.2.2.2.2.2.1))), (k6, .inl (gI g, 15, .inl ((wG v z (wN v z)).2.2.2.2.2.2.2.1))), (k7, .inl (gI g, 15, .inl ((wG v z (wN v z)).2.2.2.2.2.2.2.2)))]) rfl ?_
      exact j_iret (pc := 26) hX hQ dX8_covers_26 rfl ⟨u, (wG v z (wN v z)), (by first | rfl | first | (simp only [jb_t, jb_f, rCovers, c1_1, c8_2, reduceIte, eq_self, decide_true, decide_false, Bool.and_true, Bool.true_and, Bool.and_false, Bool.false_and, Bool.and_self, not_true_eq_false, not_false_eq_true, and_true, true_and, and_false, false_and, and_self]; done) | (simp [jb_t, jb_f, rCovers, c1_1, c8_2]; done)), (rfl)⟩
    · skip
      refine j_bipush (v := (-2)) (pc := 11) hX dX8_covers_11 (by decide) ?_
      exact j_iret (pc := 13) hX hQ dX8_covers_13 rfl ⟨u, z, (by first | rfl | first | (simp only [jb_t, jb_f, rCovers, c1_1, c8_2, reduceIte, eq_self, decide_true, decide_false, Bool.and_true, Bool.true_and, Bool.and_false, Bool.false_and, Bool.and_self, not_true_eq_false, not_false_eq_true, and_true, true_and, and_false, false_and, and_self]; done) | (simp [jb_t, jb_f, rCovers, c1_1, c8_2]; done)), (rfl)⟩

set_option maxHeartbeats 4000000 in
set_option maxRecDepth 100000 in
theorem c_X8_tightCovers (g : jG) (ax : Nat) (q : adT) (h : Nat) (sl : Nat) (p : Nat) (s : Nat) (gr : Nat) (e : Nat) (v : StT) (e1 : Nat) (u : SET) (k : Nat) (k1 : Nat) (k2 : Nat) (k3 : Nat) (k4 : Nat) (k5 : Nat) (k6 : Nat) (k7 : Nat) (z : WT) (hv : v.2.1 ≤ 14) : jMI g yX8_tightCovers cX8_tightCovers 1 .int 3 72 [.ref ax] [(ax, .inr (8, [.ref q.1, .ref h, .ref sl, .ref p, .ref s, .ref gr, .ref e])), (q.1, .inr (6, [.int v.1, .int (nI v.2.1), .ref q.2.1, .ref q.2.2.1, .ref q.2.2.2])), (q.2.1, .inl (gI g, 14, .inl v.2.2.1)), (q.2.2.1, .inl (gI g, 14, .inl v.2.2.2.1)), (q.2.2.2, .inl (gI g, 14, .inl v.2.2.2.2)), (e, .inr (3, [.ref k, .int u.1, .int u.2.1, .int u.2.2.1, .int u.2.2.2.1, .ref e1])), (e1, .inl (gI g, 18, .inl u.2.2.2.2)), (k, .inr (7, [.int z.1, .int (nI z.2.1), .ref k1, .ref k2, .ref k3, .ref k4, .ref k5, .ref k6, .ref k7])), (k1, .inl (gI g, 14, .inl z.2.2.1)), (k2, .inl (gI g, 14, .inl z.2.2.2.1)), (k3, .inl (gI g, 14, .inl z.2.2.2.2.1)), (k4, .inl (gI g, 15, .inl z.2.2.2.2.2.1)), (k5, .inl (gI g, 15, .inl z.2.2.2.2.2.2.1)), (k6, .inl (gI g, 15, .inl z.2.2.2.2.2.2.2.1)), (k7, .inl (gI g, 15, .inl z.2.2.2.2.2.2.2.2))] (fun rz wz => ∃ u1 : SET, ∃ z1 : WT, rz = nI (cT v z (wN v z)) ∧ wz = [(ax, .inr (8, [.ref q.1, .ref h, .ref sl, .ref p, .ref s, .ref gr, .ref e])), (q.1, .inr (6, [.int v.1, .int (nI v.2.1), .ref q.2.1, .ref q.2.2.1, .ref q.2.2.2])), (q.2.1, .inl (gI g, 14, .inl v.2.2.1)), (q.2.2.1, .inl (gI g, 14, .inl v.2.2.2.1)), (q.2.2.2, .inl (gI g, 14, .inl v.2.2.2.2)), (e, .inr (3, [.ref k, .int u1.1, .int u1.2.1, .int u1.2.2.1, .int u1.2.2.2.1, .ref e1])), (e1, .inl (gI g, 18, .inl u1.2.2.2.2)), (k, .inr (7, [.int z1.1, .int (nI z1.2.1), .ref k1, .ref k2, .ref k3, .ref k4, .ref k5, .ref k6, .ref k7])), (k1, .inl (gI g, 14, .inl z1.2.2.1)), (k2, .inl (gI g, 14, .inl z1.2.2.2.1)), (k3, .inl (gI g, 14, .inl z1.2.2.2.2.1)), (k4, .inl (gI g, 15, .inl z1.2.2.2.2.2.1)), (k5, .inl (gI g, 15, .inl z1.2.2.2.2.2.2.1)), (k6, .inl (gI g, 15, .inl z1.2.2.2.2.2.2.2.1)), (k7, .inl (gI g, 15, .inl z1.2.2.2.2.2.2.2.2))]) := by
  refine jMI.intro (by decide +kernel) (Nat.le_of_ble_eq_true rfl) (fun x hX hQ => ?_)
  refine j_lv (lv2 := [(0, .ref ax)]) rfl ?_
  refine j_aload_n (pc := 0) hX dX8_tightCovers_0 0 rfl ?_
  refine j_get (ci := 8) (pc := 1) hX inG8 rfl 6 (by decide) mw216 0 rfl rfl dX8_tightCovers_1 ?_
  refine j_aload_n (pc := 4) hX dX8_tightCovers_4 0 rfl ?_
  refine j_get (ci := 8) (pc := 5) hX inG8 rfl 0 (by decide) mw210 0 rfl rfl dX8_tightCovers_5 ?_
  refine j_callVI (n := 1) (As := [.ref q.1]) (rest := []) (pc := 8) hX (c_X3_countTight g e e1 u k k1 k2 k3 k4 k5 k6 k7 z q v (by first | assumption | omega)) (CV.of mw448 mw449 mw450 mw20 mw451 ⟨rfl, by decide +kernel, by decide +kernel, by decide +kernel⟩ (T := TX3) (N := 6) rfl) (Nat.le_of_ble_eq_true rfl) (Nat.le_of_ble_eq_true rfl) (Nat.le_of_ble_eq_true rfl) (Nat.le_of_ble_eq_true rfl) 5 rfl [5, 6, 7, 8, 9, 10, 11, 12, 13, 14, 1, 2, 3, 4] (by decide +kernel) rfl rfl rfl (Nat.le_of_ble_eq_true rfl) dX8_tightCovers_8 (fun r1 wz hq2 => ?_)
  obtain ⟨rfl, rfl⟩ := hq2
  refine j_ws (ws2 := [(ax, .inr (8, [.ref q.1, .ref h, .ref sl, .ref p, .ref s, .ref gr, .ref e])), (q.1, .inr (6, [.int v.1, .int (nI v.2.1), .ref q.2.1, .ref q.2.2.1, .ref q.2.2.2])), (q.2.1, .inl (gI g, 14, .inl v.2.2.1)), (q.2.2.1, .inl (gI g, 14, .inl v.2.2.2.1)), (q.2.2.2, .inl (gI g, 14, .inl v.2.2.2.2)), (e, .inr (3, [.ref k, .int u.1, .int u.2.1, .int u.2.2.1, .int u.2.2.2.1, .ref e1])), (e1, .inl (gI g, 18, .inl u.2.2.2.2)), (k, .inr (7, [.int ((wG v z (wN v z)).1), .int (nI ((wG v z (wN v z)).2.1)), .ref k1, .ref k2, .ref k3, .ref k4, .ref k5, .ref k6, .ref k7])), (k1, .inl (gI g, 14, .inl ((wG v z (wN v z)).2.2.1))), (k2, .inl (gI g, 14, .inl ((wG v z (wN v z)).2.2.2.1))), (k3, .inl (gI g, 14, .inl ((wG v z (wN v z)).2.2.2.2.1))), (k4, .inl (gI g, 15, .inl ((wG v z (wN v z)).2.2.2.2.2.1))), (k5, .inl (gI g, 15, .inl ((wG v z (wN v z)).2.2.2.2.2.2.1))), (k6, .inl (gI g, 15, .inl ((wG v z (wN v z)).2.2.2.2.2.2.2.1))), (k7, .inl (gI g, 15, .inl ((wG v z (wN v z)).2.2.2.2.2.2.2.2)))]) rfl ?_
  exact j_iret (pc := 11) hX hQ dX8_tightCovers_11 rfl ⟨u, (wG v z (wN v z)), (by first | rfl | first | (simp only [jb_t, jb_f, wN, reduceIte, eq_self, decide_true, decide_false, Bool.and_true, Bool.true_and, Bool.and_false, Bool.false_and, Bool.and_self, not_true_eq_false, not_false_eq_true, and_true, true_and, and_false, false_and, and_self]; done) | (simp [jb_t, jb_f, wN]; done)), (rfl)⟩

set_option maxHeartbeats 4000000 in
set_option maxRecDepth 100000 in
theorem c_X8_dearest (g : jG) (ax : Nat) (q : adT) (h : Nat) (sl : Nat) (p : Nat) (s : Nat) (gr : Nat) (e : Nat) (v : StT) (e1 : Nat) (u : SET) (k : Nat) (k1 : Nat) (k2 : Nat) (k3 : Nat) (k4 : Nat) (k5 : Nat) (k6 : Nat) (k7 : Nat) (z : WT) (w0 : Int32) (hv : v.2.1 ≤ 14) (h1 : ∀ x : Int32, popC (v.1 &&& x) = 1 → ∃ k, k < 18 ∧ ntzC (v.1 &&& x) = nI k) : jMI g yX8_dearest cX8_dearest 2 .int 4 95 [.ref ax, .int w0] [(ax, .inr (8, [.ref q.1, .ref h, .ref sl, .ref p, .ref s, .ref gr, .ref e])), (q.1, .inr (6, [.int v.1, .int (nI v.2.1), .ref q.2.1, .ref q.2.2.1, .ref q.2.2.2])), (q.2.1, .inl (gI g, 14, .inl v.2.2.1)), (q.2.2.1, .inl (gI g, 14, .inl v.2.2.2.1)), (q.2.2.2, .inl (gI g, 14, .inl v.2.2.2.2)), (e, .inr (3, [.ref k, .int u.1, .int u.2.1, .int u.2.2.1, .int u.2.2.2.1, .ref e1])), (e1, .inl (gI g, 18, .inl u.2.2.2.2)), (k, .inr (7, [.int z.1, .int (nI z.2.1), .ref k1, .ref k2, .ref k3, .ref k4, .ref k5, .ref k6, .ref k7])), (k1, .inl (gI g, 14, .inl z.2.2.1)), (k2, .inl (gI g, 14, .inl z.2.2.2.1)), (k3, .inl (gI g, 14, .inl z.2.2.2.2.1)), (k4, .inl (gI g, 15, .inl z.2.2.2.2.2.1)), (k5, .inl (gI g, 15, .inl z.2.2.2.2.2.2.1)), (k6, .inl (gI g, 15, .inl z.2.2.2.2.2.2.2.1)), (k7, .inl (gI g, 15, .inl z.2.2.2.2.2.2.2.2))] (fun rz wz => ∃ u1 : SET, ∃ z1 : WT, rz = rDearest v z u.2.2.2.2 w0 ∧ wz = [(ax, .inr (8, [.ref q.1, .ref h, .ref sl, .ref p, .ref s, .ref gr, .ref e])), (q.1, .inr (6, [.int v.1, .int (nI v.2.1), .ref q.2.1, .ref q.2.2.1, .ref q.2.2.2])), (q.2.1, .inl (gI g, 14, .inl v.2.2.1)), (q.2.2.1, .inl (gI g, 14, .inl v.2.2.2.1)), (q.2.2.2, .inl (gI g, 14, .inl v.2.2.2.2)), (e, .inr (3, [.ref k, .int u1.1, .int u1.2.1, .int u1.2.2.1, .int u1.2.2.2.1, .ref e1])), (e1, .inl (gI g, 18, .inl u1.2.2.2.2)), (k, .inr (7, [.int z1.1, .int (nI z1.2.1), .ref k1, .ref k2, .ref k3, .ref k4, .ref k5, .ref k6, .ref k7])), (k1, .inl (gI g, 14, .inl z1.2.2.1)), (k2, .inl (gI g, 14, .inl z1.2.2.2.1)), (k3, .inl (gI g, 14, .inl z1.2.2.2.2.1)), (k4, .inl (gI g, 15, .inl z1.2.2.2.2.2.1)), (k5, .inl (gI g, 15, .inl z1.2.2.2.2.2.2.1)), (k6, .inl (gI g, 15, .inl z1.2.2.2.2.2.2.2.1)), (k7, .inl (gI g, 15, .inl z1.2.2.2.2.2.2.2.2))]) := by
  refine jMI.intro (by decide +kernel) (Nat.le_of_ble_eq_true rfl) (fun x hX hQ => ?_)
  refine j_lv (lv2 := [(0, .ref ax), (1, .int w0)]) rfl ?_
  refine j_iload_n (pc := 0) hX dX8_dearest_0 1 rfl ?_
  refine j_if_lt (tgt := 9) (pc := 1) hX dX8_dearest_1 (by decide) (fun c1_1 => ?_) (fun c1_1 => ?_)
  · skip
    refine j_bipush (v := (-2)) (pc := 9) hX dX8_dearest_9 (by decide) ?_
    exact j_iret (pc := 11) hX hQ dX8_dearest_11 rfl ⟨u, z, (by first | rfl | first | (simp only [jb_t, jb_f, rDearest, hasC, c1_1, reduceIte, eq_self, decide_true, decide_false, Bool.and_true, Bool.true_and, Bool.and_false, Bool.false_and, Bool.and_self, not_true_eq_false, not_false_eq_true, and_true, true_and, and_false, false_and, and_self]; done) | (simp [jb_t, jb_f, rDearest, hasC, c1_1]; done)), (rfl)⟩
  · skip
    refine j_iload_n (pc := 4) hX dX8_dearest_4 1 rfl ?_
    refine j_iconst (v := 1) (pc := 5) hX dX8_dearest_5 (by decide) ?_
    refine j_icmp_le (tgt := 12) (pc := 6) hX dX8_dearest_6 (by decide) (fun c6_2 => ?_) (fun c6_2 => ?_)
    · skip
      refine j_aload_n (pc := 12) hX dX8_dearest_12 0 rfl ?_
      refine j_get (ci := 8) (pc := 13) hX inG8 rfl 0 (by decide) mw210 0 rfl rfl dX8_dearest_13 ?_
      refine j_callVI (n := 0) (As := []) (rest := []) (pc := 16) hX (c_X6_hasCover g q.1 q.2.1 q.2.2.1 q.2.2.2 v.1 v.2.1 v.2.2.1 v.2.2.2.1 v.2.2.2.2 (by first | assumption | omega)) (CV.of mw251 mw252 mw253 mw14 mw254 ⟨rfl, by decide +kernel, by decide +kernel, by decide +kernel⟩ (T := TX6) (N := 5) rfl) (Nat.le_of_ble_eq_true rfl) (Nat.le_of_ble_eq_true rfl) (Nat.le_of_ble_eq_true rfl) (Nat.le_of_ble_eq_true rfl) 1 rfl [1, 2, 3, 4] (by decide +kernel) rfl rfl rfl (Nat.le_of_ble_eq_true rfl) dX8_dearest_16 (fun r3 wz hq4 => ?_)
      obtain ⟨rfl, rfl⟩ := hq4
      refine j_ws (ws2 := [(ax, .inr (8, [.ref q.1, .ref h, .ref sl, .ref p, .ref s, .ref gr, .ref e])), (q.1, .inr (6, [.int v.1, .int (nI v.2.1), .ref q.2.1, .ref q.2.2.1, .ref q.2.2.2])), (q.2.1, .inl (gI g, 14, .inl v.2.2.1)), (q.2.2.1, .inl (gI g, 14, .inl v.2.2.2.1)), (q.2.2.2, .inl (gI g, 14, .inl v.2.2.2.2)), (e, .inr (3, [.ref k, .int u.1, .int u.2.1, .int u.2.2.1, .int u.2.2.2.1, .ref e1])), (e1, .inl (gI g, 18, .inl u.2.2.2.2)), (k, .inr (7, [.int z.1, .int (nI z.2.1), .ref k1, .ref k2, .ref k3, .ref k4, .ref k5, .ref k6, .ref k7])), (k1, .inl (gI g, 14, .inl z.2.2.1)), (k2, .inl (gI g, 14, .inl z.2.2.2.1)), (k3, .inl (gI g, 14, .inl z.2.2.2.2.1)), (k4, .inl (gI g, 15, .inl z.2.2.2.2.2.1)), (k5, .inl (gI g, 15, .inl z.2.2.2.2.2.2.1)), (k6, .inl (gI g, 15, .inl z.2.2.2.2.2.2.2.1)), (k7, .inl (gI g, 15, .inl z.2.2.2.2.2.2.2.2))]) rfl ?_
      refine j_if_ne (tgt := 25) (pc := 19) hX dX8_dearest_19 (by decide) (fun c19_5 => ?_) (fun c19_5 => ?_)
      · skip
        have c19_5b : (S_has v.2.2.1 v.2.2.2.2 v.1 v.2.1) = true := jb_1.mp c19_5
        refine j_aload_n (pc := 25) hX dX8_dearest_25 0 rfl ?_
        refine j_get (ci := 8) (pc := 26) hX inG8 rfl 0 (by decide) mw210 0 rfl rfl dX8_dearest_26 ?_
        refine j_getN (ci := 6) (pc := 29) hX inG6 rfl 0 (by decide) mw41 1 rfl rfl dX8_dearest_29 ?_
        refine j_if_ne (tgt := 38) (pc := 32) hX dX8_dearest_32 (by decide) (fun c32_6 => ?_) (fun c32_6 => ?_)
        · skip
          refine j_aload_n (pc := 38) hX dX8_dearest_38 0 rfl ?_
          refine j_get (ci := 8) (pc := 39) hX inG8 rfl 6 (by decide) mw216 0 rfl rfl dX8_dearest_39 ?_
          refine j_aload_n (pc := 42) hX dX8_dearest_42 0 rfl ?_
          refine j_get (ci := 8) (pc := 43) hX inG8 rfl 0 (by decide) mw210 0 rfl rfl dX8_dearest_43 ?_
          refine j_callVV (n := 1) (As := [.ref q.1]) (rest := []) (pc := 46) hX (c_X3_dearest g e e1 u k k1 k2 k3 k4 k5 k6 k7 z q v (by first | assumption | omega) (by first | assumption | omega)) (CV.of mw460 mw461 mw462 mw20 mw463 ⟨rfl, by decide +kernel, by decide +kernel, by decide +kernel⟩ (T := TX3) (N := 6) rfl) (Nat.le_of_ble_eq_true rfl) (Nat.le_of_ble_eq_true rfl) (Nat.le_of_ble_eq_true rfl) (Nat.le_of_ble_eq_true rfl) 5 rfl [5, 6, 7, 8, 9, 10, 11, 12, 13, 14, 1, 2, 3, 4] (by decide +kernel) rfl rfl rfl (Nat.le_of_ble_eq_true rfl) dX8_dearest_46 (fun wz wnz hq8 => ?_)
          obtain ⟨rfl, rfl⟩ := hq8
          refine j_ws (ws2 := [(ax, .inr (8, [.ref q.1, .ref h, .ref sl, .ref p, .ref s, .ref gr, .ref e])), (q.1, .inr (6, [.int v.1, .int (nI v.2.1), .ref q.2.1, .ref q.2.2.1, .ref q.2.2.2])), (q.2.1, .inl (gI g, 14, .inl v.2.2.1)), (q.2.2.1, .inl (gI g, 14, .inl v.2.2.2.1)), (q.2.2.2, .inl (gI g, 14, .inl v.2.2.2.2)), (e, .inr (3, [.ref k, .int u.1, .int ((fM1 v z u.2.2.2.2 (wN v z)).1), .int ((fD v (fM1 v z u.2.2.2.2 (wN v z)) 18).1), .int ((fD v (fM1 v z u.2.2.2.2 (wN v z)) 18).2), .ref e1])), (e1, .inl (gI g, 18, .inl ((fM1 v z u.2.2.2.2 (wN v z)).2))), (k, .inr (7, [.int ((wG v z (wN v z)).1), .int (nI ((wG v z (wN v z)).2.1)), .ref k1, .ref k2, .ref k3, .ref k4, .ref k5, .ref k6, .ref k7])), (k1, .inl (gI g, 14, .inl ((wG v z (wN v z)).2.2.1))), (k2, .inl (gI g, 14, .inl ((wG v z (wN v z)).2.2.2.1))), (k3, .inl (gI g, 14, .inl ((wG v z (wN v z)).2.2.2.2.1))), (k4, .inl (gI g, 15, .inl ((wG v z (wN v z)).2.2.2.2.2.1))), (k5, .inl (gI g, 15, .inl ((wG v z (wN v z)).2.2.2.2.2.2.1))), (k6, .inl (gI g, 15, .inl ((wG v z (wN v z)).2.2.2.2.2.2.2.1))), (k7, .inl (gI g, 15, .inl ((wG v z (wN v z)).2.2.2.2.2.2.2.2)))]) rfl ?_
          refine j_iload_n (pc := 49) hX dX8_dearest_49 1 rfl ?_
          refine j_if_ne (tgt := 63) (pc := 50) hX dX8_dearest_50 (by decide) (fun c50_9 => ?_) (fun c50_9 => ?_)
          · skip
            refine j_aload_n (pc := 63) hX dX8_dearest_63 0 rfl ?_
            refine j_get (ci := 8) (pc := 64) hX inG8 rfl 6 (by decide) mw216 0 rfl rfl dX8_dearest_64 ?_
            refine j_getN (ci := 3) (pc := 67) hX inG3 rfl 4 (by decide) mw202 5 rfl rfl dX8_dearest_67 ?_
            exact j_iret (pc := 70) hX hQ dX8_dearest_70 rfl ⟨(u.1, (fM1 v z u.2.2.2.2 (wN v z)).1, (fD v (fM1 v z u.2.2.2.2 (wN v z)) 18).1, (fD v (fM1 v z u.2.2.2.2 (wN v z)) 18).2, (fM1 v z u.2.2.2.2 (wN v z)).2), (wG v z (wN v z)), (by first | rfl | first | (simp only [jb_t, jb_f, rDearest, hasC, c1_1, c6_2, c19_5, c19_5b, c32_6, c50_9, reduceIte, eq_self, decide_true, decide_false, Bool.and_true, Bool.true_and, Bool.and_false, Bool.false_and, Bool.and_self, not_true_eq_false, not_false_eq_true, and_true, true_and, and_false, false_and, and_self]; done) | (simp [jb_t, jb_f, rDearest, hasC, c1_1, c6_2, c19_5, c19_5b, c32_6, c50_9]; done)), (rfl)⟩
          · skip
            refine j_aload_n (pc := 53) hX dX8_dearest_53 0 rfl ?_
            refine j_get (ci := 8) (pc := 54) hX inG8 rfl 6 (by decide) mw216 0 rfl rfl dX8_dearest_54 ?_
            refine j_getN (ci := 3) (pc := 57) hX inG3 rfl 3 (by decide) mw200 5 rfl rfl dX8_dearest_57 ?_
            refine j_goto (tgt := 70) (pc := 60) hX dX8_dearest_60 (by decide) ?_
            exact j_iret (pc := 70) hX hQ dX8_dearest_70 rfl ⟨(u.1, (fM1 v z u.2.2.2.2 (wN v z)).1, (fD v (fM1 v z u.2.2.2.2 (wN v z)) 18).1, (fD v (fM1 v z u.2.2.2.2 (wN v z)) 18).2, (fM1 v z u.2.2.2.2 (wN v z)).2), (wG v z (wN v z)), (by first | rfl | first | (simp only [jb_t, jb_f, rDearest, hasC, c1_1, c6_2, c19_5, c19_5b, c32_6, c50_9, reduceIte, eq_self, decide_true, decide_false, Bool.and_true, Bool.true_and, Bool.and_false, Bool.false_and, Bool.and_self, not_true_eq_false, not_false_eq_true, and_true, true_and, and_false, false_and, and_self]; done) | (simp [jb_t, jb_f, rDearest, hasC, c1_1, c6_2, c19_5, c19_5b, c32_6, c50_9]; done)), (rfl)⟩
        · skip
          refine j_bipush (v := (-6)) (pc := 35) hX dX8_dearest_35 (by decide) ?_
          exact j_iret (pc := 37) hX hQ dX8_dearest_37 rfl ⟨u, z, (by unfold rDearest hasC; rw [if_neg c1_1, if_pos c6_2, if_pos c19_5b, if_pos c32_6]), (rfl)⟩
      · skip
        have c19_5b : (S_has v.2.2.1 v.2.2.2.2 v.1 v.2.1) = false := jb_0.mp c19_5
        refine j_bipush (v := (-5)) (pc := 22) hX dX8_dearest_22 (by decide) ?_
        exact j_iret (pc := 24) hX hQ dX8_dearest_24 rfl ⟨u, z, (by first | rfl | first | (simp only [jb_t, jb_f, rDearest, hasC, c1_1, c6_2, c19_5, c19_5b, reduceIte, eq_self, decide_true, decide_false, Bool.and_true, Bool.true_and, Bool.and_false, Bool.false_and, Bool.and_self, not_true_eq_false, not_false_eq_true, and_true, true_and, and_false, false_and, and_self]; done) | (simp [jb_t, jb_f, rDearest, hasC, c1_1, c6_2, c19_5, c19_5b]; done)), (rfl)⟩
    · skip
      refine j_bipush (v := (-2)) (pc := 9) hX dX8_dearest_9 (by decide) ?_
      exact j_iret (pc := 11) hX hQ dX8_dearest_11 rfl ⟨u, z, (by first | rfl | first | (simp only [jb_t, jb_f, rDearest, hasC, c1_1, c6_2, reduceIte, eq_self, decide_true, decide_false, Bool.and_true, Bool.true_and, Bool.and_false, Bool.false_and, Bool.and_self, not_true_eq_false, not_false_eq_true, and_true, true_and, and_false, false_and, and_self]; done) | (simp [jb_t, jb_f, rDearest, hasC, c1_1, c6_2]; done)), (rfl)⟩

