/-! the reference: load and the queries without shares -/
theorem ld_cong (v : StT) {A B A2 B2 : Nat → Int32} : ∀ n, (∀ j, j < n → A j = A2 j ∧ B j = B2 j) → ld v A B n = ld v A2 B2 n
  | 0, _ => rfl
  | n + 1, h => by
    have h1 := ld_cong v n (fun j hj => h j (by omega))
    obtain ⟨h2, h3⟩ := h n (by omega)
    rw [ld, ld, h1, h2, h3]
def rCheckM (v : StT) (m : Int32) : Int32 := if m < 0 then -1 else if m >>> (nI v.2.1 &&& 31) = 0 then (if S_cov v.2.2.1 v.2.2.2.2 v.1 v.2.1 m = true then S_sum v.2.2.2.1 m v.2.1 else -6) else -1
def rCountM (v : StT) (n c : Nat) (w : Int32) : Int32 := if w = 0 then nI v.2.1 else if w = 1 then v.1 else if w = 2 then jb (hasM v) else if w = 3 then msM v 18 else if w = 4 then nI n else if w = 5 then nI c else -2
def rLeastM (v : StT) (w : Int32) : Int32 := if S_in w 0 1 = true then (if 0 ≤ oN (lW v 0 0 (wM v)).1 then (if w = 0 then oN (lW v 0 0 (wM v)).1 else S_sum v.2.2.2.1 (oN (lW v 0 0 (wM v)).1) v.2.1) else -5) else -2
theorem nbt {b : Bool} (h : b = false) : ¬ b = true := by rw [h]; decide
def cnM (v : StT) (x : Int32) : Nat → Nat
  | 0 => 0
  | i + 1 => if S_cov v.2.2.1 v.2.2.2.2 v.1 v.2.1 (nI i) = true then (if x < S_sum v.2.2.2.1 (nI i) v.2.1 then cnM v x i else cnM v x i + 1) else cnM v x i
def clM (v : StT) (m : Int32) : Nat → Bool
  | 0 => false
  | k + 1 => clM v m k || (bt m k && S_cov v.2.2.1 v.2.2.2.2 v.1 v.2.1 (m &&& (bI k ^^^ (-1))))
theorem clM_up (v : StT) (m : Int32) {k : Nat} (h : clM v m k = true) : ∀ n, k ≤ n → clM v m n = true
  | 0, hn => by rw [show k = 0 by omega] at h; exact h
  | n + 1, hn => by
    by_cases he : k = n + 1
    · rw [← he]; exact h
    · rw [clM, clM_up v m h n (by omega)]; rfl
def tcM (v : StT) : Nat → Nat
  | 0 => 0
  | i + 1 => if S_cov v.2.2.1 v.2.2.2.2 v.1 v.2.1 (nI i) = true then (if clM v (nI i) v.2.1 = true then tcM v i else tcM v i + 1) else tcM v i
def msW (v : StT) (j : Nat) : Int32 := if 0 ≤ oN (lW v 0 (bI j) (wM v)).1 then S_sum v.2.2.2.1 (oN (lW v 0 (bI j) (wM v)).1) v.2.1 - S_sum v.2.2.2.1 (oN (lW v (bI j) 0 (wM v)).1) v.2.1 + v.2.2.2.1 j else 500
def rCovM (v : StT) (x : Int32) : Int32 := if S_in x 0 7000 = true then nI (cnM v x (wM v)) else -2
def rStaysM (v : StT) (k : Int32) : Int32 := if S_is v.2.1 k = true then (if 0 ≤ oN (lW v (bI (kN k)) 0 (wM v)).1 then (if 1 ≤ msW v (kN k) then (if msW v (kN k) ≤ 500 then msW v (kN k) else 500) else -6) else -6) else -1
def dM (v : StT) : Nat → Option Nat × Int32
  | 0 => (none, 0)
  | t + 1 => if bt v.1 t = true then (if oN (dM v t).1 < 0 then (some t, S_sum v.2.2.2.1 (oN (lW (v.1 &&& (bI t ^^^ (-1)), v.2.1, v.2.2.1, v.2.2.2.1, v.2.2.2.2) 0 0 (wM (v.1 &&& (bI t ^^^ (-1)), v.2.1, v.2.2.1, v.2.2.2.1, v.2.2.2.2))).1) v.2.1) else if (dM v t).2 ≤ S_sum v.2.2.2.1 (oN (lW (v.1 &&& (bI t ^^^ (-1)), v.2.1, v.2.2.1, v.2.2.2.1, v.2.2.2.2) 0 0 (wM (v.1 &&& (bI t ^^^ (-1)), v.2.1, v.2.2.1, v.2.2.2.1, v.2.2.2.2))).1) v.2.1 then dM v t else (some t, S_sum v.2.2.2.1 (oN (lW (v.1 &&& (bI t ^^^ (-1)), v.2.1, v.2.2.1, v.2.2.2.1, v.2.2.2.2) 0 0 (wM (v.1 &&& (bI t ^^^ (-1)), v.2.1, v.2.2.1, v.2.2.2.1, v.2.2.2.2))).1) v.2.1)) else dM v t
def rDearM (v : StT) (w : Int32) : Int32 := if S_in w 0 1 = true then (if hasM v = true then (if oN (dM v 18).1 < 0 then oN (dM v 18).1 else if w = 0 then oN (dM v 18).1 else (dM v 18).2) else -5) else -2

set_option maxHeartbeats 4000000 in
set_option maxRecDepth 100000 in
theorem c_X9_fault (g : jG) (m : Nat) (a0 : Nat) (a1 : Nat) (a3 : Nat) (a4 : Nat) (a5 : Nat) (a7 : Nat) (a8 : Nat) (a10 : Nat) (a11 : Nat) (un : Nat) (sg : Nat) (mn : Nat) (ti : Nat) (dr : Int32) (rd : Nat) (op : Int32) (f : Nat → Int32) (gT : Nat → Int32) (gP : Nat → Int32) (P : PT) (hn : sg ≤ 80) : jMI g yX9_fault cX9_fault 1 .int 2 48 [.ref m] [(m, .inr (9, [.ref a0, .ref a1, .int (nI un), .ref a3, .ref a4, .ref a5, .int (nI sg), .ref a7, .ref a8, .int (nI mn), .ref a10, .ref a11, .int (nI ti), .int dr, .int (nI rd), .int op])), (a5, .inl (gI g, 80, .inl f)), (a7, .inl (gI g, 40, .inl gT)), (a8, .inl (gI g, 40, .inl gP))] (fun rz wz => ∃ mn2 : Nat, ∃ gT2 : Nat → Int32, ∃ gP2 : Nat → Int32, rz = (pRd f sg sg 0 (pZero P)).1 ∧ wz = [(m, .inr (9, [.ref a0, .ref a1, .int (nI un), .ref a3, .ref a4, .ref a5, .int (nI sg), .ref a7, .ref a8, .int (nI mn2), .ref a10, .ref a11, .int (nI ti), .int dr, .int (nI rd), .int op])), (a5, .inl (gI g, 80, .inl f)), (a7, .inl (gI g, 40, .inl gT2)), (a8, .inl (gI g, 40, .inl gP2))]) := by
  refine jMI.intro (by decide +kernel) (Nat.le_of_ble_eq_true rfl) (fun x hX hQ => ?_)
  refine j_lv (lv2 := [(0, .ref m)]) rfl ?_
  refine j_aload_n (pc := 0) hX dX9_fault_0 0 rfl ?_
  refine j_callVI (n := 0) (As := []) (rest := []) (pc := 1) hX (c_X9_read g m a0 a1 a3 a4 a5 a7 a8 a10 a11 un sg mn ti dr rd op f gT gP P (by first | assumption | omega)) (CV.of mw715 mw716 mw25 mw52 mw717 ⟨rfl, by decide +kernel, by decide +kernel, by decide +kernel⟩ (T := TX9) (N := 16) rfl) (Nat.le_of_ble_eq_true rfl) (Nat.le_of_ble_eq_true rfl) (Nat.le_of_ble_eq_true rfl) (Nat.le_of_ble_eq_true rfl) 0 rfl [0, 1, 2, 3] (by decide +kernel) rfl rfl rfl (Nat.le_of_ble_eq_true rfl) dX9_fault_1 (fun r4 wz hq5 => ?_)
  obtain ⟨mn2_1, gT2_2, gP2_3, hm2_6, hR2_7, rfl, rfl⟩ := hq5
  refine j_ws (ws2 := [(m, .inr (9, [.ref a0, .ref a1, .int (nI un), .ref a3, .ref a4, .ref a5, .int (nI sg), .ref a7, .ref a8, .int (nI mn2_1), .ref a10, .ref a11, .int (nI ti), .int dr, .int (nI rd), .int op])), (a5, .inl (gI g, 80, .inl f)), (a7, .inl (gI g, 40, .inl gT2_2)), (a8, .inl (gI g, 40, .inl gP2_3))]) rfl ?_
  exact j_iret (pc := 4) hX hQ dX9_fault_4 rfl ⟨mn2_1, gT2_2, gP2_3, (by first | rfl | first | (simp only [jb_t, jb_f, hm2_6, hR2_7, reduceIte, eq_self, decide_true, decide_false, Bool.and_true, Bool.true_and, Bool.and_false, Bool.false_and, Bool.and_self, not_true_eq_false, not_false_eq_true, and_true, true_and, and_false, false_and, and_self]; done) | (simp [jb_t, jb_f, hm2_6, hR2_7]; done)), (rfl)⟩

set_option maxHeartbeats 4000000 in
set_option maxRecDepth 100000 in
theorem c_X9_load (g : jG) (m : Nat) (a0 : Nat) (a1 : Nat) (a3 : Nat) (a4 : Nat) (a5 : Nat) (a7 : Nat) (a8 : Nat) (a10 : Nat) (a11 : Nat) (un : Nat) (sg : Nat) (mn : Nat) (ti : Nat) (dr : Int32) (rd : Nat) (op : Int32) (v : StT) (w : Nat → StT) (f : Nat → Int32) (gT : Nat → Int32) (gP : Nat → Int32) (P : PT) (hv : v.2.1 ≤ 14) (hu : un ≤ 6) (hn : sg ≤ 80) : jMI g yX9_load cX9_load 2 .int 2 48 [.ref m] [(m, .inr (9, [.ref a0, .ref a1, .int (nI un), .ref a3, .ref a4, .ref a5, .int (nI sg), .ref a7, .ref a8, .int (nI mn), .ref a10, .ref a11, .int (nI ti), .int dr, .int (nI rd), .int op])), (a0, .inl (gI g, 60, .inl (nowF v))), (a1, .inl (gI g, 360, .inl (hisF w))), (a5, .inl (gI g, 80, .inl f)), (a7, .inl (gI g, 40, .inl gT)), (a8, .inl (gI g, 40, .inl gP))] (fun rz wz => ∃ mn2 : Nat, ∃ gT2 : Nat → Int32, ∃ gP2 : Nat → Int32, rz = rLoad v (pRd f sg sg 0 (pZero P)) ∧ wz = [(m, .inr (9, [.ref a0, .ref a1, .int (nI (mC (okLoad v (pRd f sg sg 0 (pZero P))) un)), .ref a3, .ref a4, .ref a5, .int (nI (mL (okLoad v (pRd f sg sg 0 (pZero P))) sg)), .ref a7, .ref a8, .int (nI mn2), .ref a10, .ref a11, .int (nI ti), .int dr, .int (nI rd), .int op])), (a0, .inl (gI g, 60, .inl (nowF (mV (okLoad v (pRd f sg sg 0 (pZero P))) v (vLoad v (pRd f sg sg 0 (pZero P))))))), (a1, .inl (gI g, 360, .inl (hisF (mW (okLoad v (pRd f sg sg 0 (pZero P))) w un v)))), (a5, .inl (gI g, 80, .inl f)), (a7, .inl (gI g, 40, .inl gT2)), (a8, .inl (gI g, 40, .inl gP2))]) := by
  refine jMI.intro (by decide +kernel) (Nat.le_of_ble_eq_true rfl) (fun x hX hQ => ?_)
  refine j_lv (lv2 := [(0, .ref m)]) rfl ?_
  refine j_aload_n (pc := 0) hX dX9_load_0 0 rfl ?_
  refine j_callVI (n := 0) (As := []) (rest := []) (pc := 1) hX (c_X9_read g m a0 a1 a3 a4 a5 a7 a8 a10 a11 un sg mn ti dr rd op f gT gP P (by first | assumption | omega)) (CV.of mw715 mw716 mw25 mw52 mw717 ⟨rfl, by decide +kernel, by decide +kernel, by decide +kernel⟩ (T := TX9) (N := 16) rfl) (Nat.le_of_ble_eq_true rfl) (Nat.le_of_ble_eq_true rfl) (Nat.le_of_ble_eq_true rfl) (Nat.le_of_ble_eq_true rfl) 0 rfl [0, 3, 4, 5] (by decide +kernel) rfl rfl rfl (Nat.le_of_ble_eq_true rfl) dX9_load_1 (fun r4 wz hq5 => ?_)
  obtain ⟨mn2_1, gT2_2, gP2_3, hm2_6, hR2_7, rfl, rfl⟩ := hq5
  refine j_ws (ws2 := [(m, .inr (9, [.ref a0, .ref a1, .int (nI un), .ref a3, .ref a4, .ref a5, .int (nI sg), .ref a7, .ref a8, .int (nI mn2_1), .ref a10, .ref a11, .int (nI ti), .int dr, .int (nI rd), .int op])), (a0, .inl (gI g, 60, .inl (nowF v))), (a1, .inl (gI g, 360, .inl (hisF w))), (a5, .inl (gI g, 80, .inl f)), (a7, .inl (gI g, 40, .inl gT2_2)), (a8, .inl (gI g, 40, .inl gP2_3))]) rfl ?_
  refine j_bipush (v := (-6)) (pc := 4) hX dX9_load_4 (by decide) ?_
  refine j_icmp_eq (tgt := 12) (pc := 6) hX dX9_load_6 (by decide) (fun c6_8 => ?_) (fun c6_8 => ?_)
  · skip
    obtain ⟨hmn, hAB⟩ := hR2_7 c6_8
    refine j_aload_n (pc := 12) hX dX9_load_12 0 rfl ?_
    refine j_get (ci := 9) (pc := 13) hX inG9 rfl 0 (by decide) mw624 0 rfl rfl dX9_load_13 ?_
    refine j_iconst (v := 0) (pc := 16) hX dX9_load_16 (by decide) ?_
    refine j_iald (pc := 17) hX 1 rfl 0 rfl (by omega) (by omega) dX9_load_17 ?_
    refine j_top (b := nI v.2.1) (rfl) ?_
    refine j_aload_n (pc := 18) hX dX9_load_18 0 rfl ?_
    refine j_get (ci := 9) (pc := 19) hX inG9 rfl 9 (by decide) mw633 0 rfl rfl dX9_load_19 ?_
    refine j_iadd (pc := 22) hX dX9_load_22 ?_
    refine j_top (b := nI (v.2.1 + mn2_1)) (nI_add v.2.1 mn2_1) ?_
    refine j_bipush (v := 14) (pc := 23) hX dX9_load_23 (by decide) ?_
    refine j_icmp_le (tgt := 31) (pc := 25) hX dX9_load_25 (by decide) (fun c25_9 => ?_) (fun c25_9 => ?_)
    · skip
      have c25_9n : (v.2.1 + mn2_1) ≤ 14 := (nI_leI (a := (v.2.1 + mn2_1)) (b := 14) (by omega) (by omega)).mp c25_9
      have c25_9m : ¬ 14 < (v.2.1 + mn2_1) := by omega
      refine j_aload_n (pc := 31) hX dX9_load_31 0 rfl ?_
      refine j_callVV (n := 0) (As := []) (rest := []) (pc := 32) hX (c_X9_record g m a0 a1 a3 a4 a5 a7 a8 a10 a11 un sg mn2_1 ti dr rd op v w (by first | assumption | omega) (by first | assumption | omega)) (CV.of mw664 mw665 mw19 mw52 mw666 ⟨rfl, by decide +kernel, by decide +kernel, by decide +kernel⟩ (T := TX9) (N := 16) rfl) (Nat.le_of_ble_eq_true rfl) (Nat.le_of_ble_eq_true rfl) (Nat.le_of_ble_eq_true rfl) (Nat.le_of_ble_eq_true rfl) 0 rfl [0, 1, 2] (by decide +kernel) rfl rfl rfl (Nat.le_of_ble_eq_true rfl) dX9_load_32 (fun wz wnz hq11 => ?_)
      obtain ⟨rfl, rfl⟩ := hq11
      refine j_ws (ws2 := [(m, .inr (9, [.ref a0, .ref a1, .int (nI (hC un)), .ref a3, .ref a4, .ref a5, .int (nI sg), .ref a7, .ref a8, .int (nI mn2_1), .ref a10, .ref a11, .int (nI ti), .int dr, .int (nI rd), .int op])), (a0, .inl (gI g, 60, .inl (nowF v))), (a1, .inl (gI g, 360, .inl (hisF (rW w un v)))), (a5, .inl (gI g, 80, .inl f)), (a7, .inl (gI g, 40, .inl gT2_2)), (a8, .inl (gI g, 40, .inl gP2_3))]) rfl ?_
      refine j_iconst (v := 0) (pc := 35) hX dX9_load_35 (by decide) ?_
      refine j_istore_n (lv2 := [(0, .ref m), (1, .int 0)]) (pc := 36) hX dX9_load_36 [1, 0] (by decide) rfl ?_
      have L37 : ∀ (d : Nat) (i : Nat), i ≤ mn2_1 → mn2_1 - i = d → J g x 2 0 0 37 [(0, .ref m), (1, .int (nI i))] [] [(m, .inr (9, [.ref a0, .ref a1, .int (nI (hC un)), .ref a3, .ref a4, .ref a5, .int (nI sg), .ref a7, .ref a8, .int (nI mn2_1), .ref a10, .ref a11, .int (nI ti), .int dr, .int (nI rd), .int op])), (a0, .inl (gI g, 60, .inl (nowF (ld v gT2_2 gP2_3 i)))), (a1, .inl (gI g, 360, .inl (hisF (rW w un v)))), (a5, .inl (gI g, 80, .inl f)), (a7, .inl (gI g, 40, .inl gT2_2)), (a8, .inl (gI g, 40, .inl gP2_3))] := by
        intro d
        induction d using Nat.strongRecOn with
        | _ d ih37 =>
          intro i hi hd37
          refine j_iload_n (pc := 37) hX dX9_load_37 1 rfl ?_
          refine j_aload_n (pc := 38) hX dX9_load_38 0 rfl ?_
          refine j_get (ci := 9) (pc := 39) hX inG9 rfl 9 (by decide) mw633 0 rfl rfl dX9_load_39 ?_
          refine j_icmp_ge (tgt := 67) (pc := 42) hX dX9_load_42 (by decide) (fun c42_12 => ?_) (fun c42_12 => ?_)
          · skip
            have c42_12n : mn2_1 ≤ i := (nI_leI (a := mn2_1) (b := i) (by omega) (by omega)).mp c42_12
            have c42_12m : ¬ i < mn2_1 := by omega
            refine j_aload_n (pc := 67) hX dX9_load_67 0 rfl ?_
            refine j_iconst (v := 0) (pc := 68) hX dX9_load_68 (by decide) ?_
            refine j_put (ci := 9) (ty := .int) (pc := 69) hX inG9 tyX9 tyX9_ok nmG9 rfl 6 (by decide) mw630 rfl (by decide +kernel) 0 rfl (Nat.le_of_ble_eq_true rfl) (rfl) rfl dX9_load_69 ?_
            refine j_ws (ws2 := [(m, .inr (9, [.ref a0, .ref a1, .int (nI (hC un)), .ref a3, .ref a4, .ref a5, .int 0, .ref a7, .ref a8, .int (nI mn2_1), .ref a10, .ref a11, .int (nI ti), .int dr, .int (nI rd), .int op])), (a0, .inl (gI g, 60, .inl (nowF (ld v gT2_2 gP2_3 i)))), (a1, .inl (gI g, 360, .inl (hisF (rW w un v)))), (a5, .inl (gI g, 80, .inl f)), (a7, .inl (gI g, 40, .inl gT2_2)), (a8, .inl (gI g, 40, .inl gP2_3))]) rfl ?_
            refine j_aload_n (pc := 72) hX dX9_load_72 0 rfl ?_
            refine j_get (ci := 9) (pc := 73) hX inG9 rfl 9 (by decide) mw633 0 rfl rfl dX9_load_73 ?_
            exact j_iret (pc := 76) hX hQ dX9_load_76 rfl ⟨mn2_1, gT2_2, gP2_3, (by rw [rLoad, if_pos c6_8, ← hmn, if_pos (by omega)]), (by rw [show okLoad v (pRd f sg sg 0 (pZero P)) = true from by rw [okLoad, ← hmn]; simp [c6_8]; omega, show i = mn2_1 by omega, ld_cong v mn2_1 hAB, hmn]; rfl)⟩
          · skip
            have c42_12n : ¬ mn2_1 ≤ i := fun h9 => c42_12 ((nI_leI (a := mn2_1) (b := i) (by omega) (by omega)).mpr h9)
            have c42_12m : i < mn2_1 := by omega
            refine j_aload_n (pc := 45) hX dX9_load_45 0 rfl ?_
            refine j_aload_n (pc := 46) hX dX9_load_46 0 rfl ?_
            refine j_get (ci := 9) (pc := 47) hX inG9 rfl 7 (by decide) mw631 0 rfl rfl dX9_load_47 ?_
            refine j_iload_n (pc := 50) hX dX9_load_50 1 rfl ?_
            refine j_iald (pc := 51) hX 4 rfl i rfl (by omega) (by omega) dX9_load_51 ?_
            refine j_aload_n (pc := 52) hX dX9_load_52 0 rfl ?_
            refine j_get (ci := 9) (pc := 53) hX inG9 rfl 8 (by decide) mw632 0 rfl rfl dX9_load_53 ?_
            refine j_iload_n (pc := 56) hX dX9_load_56 1 rfl ?_
            refine j_iald (pc := 57) hX 5 rfl i rfl (by omega) (by omega) dX9_load_57 ?_
            refine j_callVV (n := 2) (As := [.int (gT2_2 i), .int (gP2_3 i)]) (rest := []) (pc := 58) hX (c_X9_make g m a0 a1 a3 a4 a5 a7 a8 a10 a11 (hC un) sg mn2_1 ti dr rd op (ld v gT2_2 gP2_3 i) (gT2_2 i) (gP2_3 i) (by rw [ld_n]; omega)) (CV.of mw671 mw672 mw20 mw52 mw673 ⟨rfl, by decide +kernel, by decide +kernel, by decide +kernel⟩ (T := TX9) (N := 16) rfl) (Nat.le_of_ble_eq_true rfl) (Nat.le_of_ble_eq_true rfl) (Nat.le_of_ble_eq_true rfl) (Nat.le_of_ble_eq_true rfl) 0 rfl [0, 1] (by decide +kernel) rfl rfl rfl (Nat.le_of_ble_eq_true rfl) dX9_load_58 (fun wz wnz hq14 => ?_)
            obtain ⟨rfl, rfl⟩ := hq14
            refine j_ws (ws2 := [(m, .inr (9, [.ref a0, .ref a1, .int (nI (hC un)), .ref a3, .ref a4, .ref a5, .int (nI sg), .ref a7, .ref a8, .int (nI mn2_1), .ref a10, .ref a11, .int (nI ti), .int dr, .int (nI rd), .int op])), (a0, .inl (gI g, 60, .inl (nowF (vSet (ld v gT2_2 gP2_3 i) (gT2_2 i) (gP2_3 i))))), (a1, .inl (gI g, 360, .inl (hisF (rW w un v)))), (a5, .inl (gI g, 80, .inl f)), (a7, .inl (gI g, 40, .inl gT2_2)), (a8, .inl (gI g, 40, .inl gP2_3))]) rfl ?_
            refine j_iinc (v := nI (i + 1)) (lv2 := [(0, .ref m), (1, .int (nI (i + 1)))]) (pc := 61) hX dX9_load_61 1 rfl (nI_add i 1) [1, 0] (by decide) rfl ?_
            refine j_goto (tgt := 37) (pc := 64) hX dX9_load_64 (by decide) ?_
            exact j_eq (lv2 := [(0, .ref m), (1, .int (nI (i + 1)))]) (ws2 := [(m, .inr (9, [.ref a0, .ref a1, .int (nI (hC un)), .ref a3, .ref a4, .ref a5, .int (nI sg), .ref a7, .ref a8, .int (nI mn2_1), .ref a10, .ref a11, .int (nI ti), .int dr, .int (nI rd), .int op])), (a0, .inl (gI g, 60, .inl (nowF (ld v gT2_2 gP2_3 (i + 1))))), (a1, .inl (gI g, 360, .inl (hisF (rW w un v)))), (a5, .inl (gI g, 80, .inl f)), (a7, .inl (gI g, 40, .inl gT2_2)), (a8, .inl (gI g, 40, .inl gP2_3))]) (by first | rfl | first | (simp only [jb_t, jb_f, hm2_6, hR2_7, c6_8, c25_9, c25_9n, c25_9m, c42_12, c42_12n, c42_12m, reduceIte, eq_self, decide_true, decide_false, Bool.and_true, Bool.true_and, Bool.and_false, Bool.false_and, Bool.and_self, not_true_eq_false, not_false_eq_true, and_true, true_and, and_false, false_and, and_self]; done) | (simp [jb_t, jb_f, hm2_6, hR2_7, c6_8, c25_9, c25_9n, c25_9m, c42_12, c42_12n, c42_12m]; done)) (by first | rfl | first | (simp only [jb_t, jb_f, hm2_6, hR2_7, c6_8, c25_9, c25_9n, c25_9m, c42_12, c42_12n, c42_12m, reduceIte, eq_self, decide_true, decide_false, Bool.and_true, Bool.true_and, Bool.and_false, Bool.false_and, Bool.and_self, not_true_eq_false, not_false_eq_true, and_true, true_and, and_false, false_and, and_self]; done) | (simp [jb_t, jb_f, hm2_6, hR2_7, c6_8, c25_9, c25_9n, c25_9m, c42_12, c42_12n, c42_12m]; done)) (ih37 _ (by omega) (i + 1) (by omega) rfl)
      exact j_eq (lv2 := [(0, .ref m), (1, .int (nI 0))]) (ws2 := [(m, .inr (9, [.ref a0, .ref a1, .int (nI (hC un)), .ref a3, .ref a4, .ref a5, .int (nI sg), .ref a7, .ref a8, .int (nI mn2_1), .ref a10, .ref a11, .int (nI ti), .int dr, .int (nI rd), .int op])), (a0, .inl (gI g, 60, .inl (nowF (ld v gT2_2 gP2_3 0)))), (a1, .inl (gI g, 360, .inl (hisF (rW w un v)))), (a5, .inl (gI g, 80, .inl f)), (a7, .inl (gI g, 40, .inl gT2_2)), (a8, .inl (gI g, 40, .inl gP2_3))]) (rfl) (rfl) (L37 _ 0 (by omega) rfl)
    · skip
      have c25_9n : ¬ (v.2.1 + mn2_1) ≤ 14 := fun h9 => c25_9 ((nI_leI (a := (v.2.1 + mn2_1)) (b := 14) (by omega) (by omega)).mpr h9)
      have c25_9m : 14 < (v.2.1 + mn2_1) := by omega
      refine j_bipush (v := (-4)) (pc := 28) hX dX9_load_28 (by decide) ?_
      exact j_iret (pc := 30) hX hQ dX9_load_30 rfl ⟨mn2_1, gT2_2, gP2_3, (by rw [rLoad, if_pos c6_8, ← hmn, if_neg (by omega)]), (by rw [show okLoad v (pRd f sg sg 0 (pZero P)) = false from by rw [okLoad, ← hmn]; simp; omega]; rfl)⟩
  · skip
    refine j_bipush (v := (-3)) (pc := 9) hX dX9_load_9 (by decide) ?_
    exact j_iret (pc := 11) hX hQ dX9_load_11 rfl ⟨mn2_1, gT2_2, gP2_3, (by simp only [rLoad, c6_8, if_false]), (by rw [show okLoad v (pRd f sg sg 0 (pZero P)) = false from by simp [okLoad, c6_8]]; rfl)⟩

set_option maxHeartbeats 4000000 in
set_option maxRecDepth 100000 in
theorem c_X9_check (g : jG) (m : Nat) (a0 : Nat) (a1 : Nat) (a3 : Nat) (a4 : Nat) (a5 : Nat) (a7 : Nat) (a8 : Nat) (a10 : Nat) (a11 : Nat) (un : Nat) (sg : Nat) (mn : Nat) (ti : Nat) (dr : Int32) (rd : Nat) (op : Int32) (v : StT) (k : Int32) (hv : v.2.1 ≤ 14) : jMI g yX9_check cX9_check 2 .int 3 66 [.ref m, .int k] [(m, .inr (9, [.ref a0, .ref a1, .int (nI un), .ref a3, .ref a4, .ref a5, .int (nI sg), .ref a7, .ref a8, .int (nI mn), .ref a10, .ref a11, .int (nI ti), .int dr, .int (nI rd), .int op])), (a0, .inl (gI g, 60, .inl (nowF v)))] (fun rz wz => rz = rCheckM v k ∧ wz = [(m, .inr (9, [.ref a0, .ref a1, .int (nI un), .ref a3, .ref a4, .ref a5, .int (nI sg), .ref a7, .ref a8, .int (nI mn), .ref a10, .ref a11, .int (nI ti), .int dr, .int (nI rd), .int op])), (a0, .inl (gI g, 60, .inl (nowF v)))]) := by
  refine jMI.intro (by decide +kernel) (Nat.le_of_ble_eq_true rfl) (fun x hX hQ => ?_)
  refine j_lv (lv2 := [(0, .ref m), (1, .int k)]) rfl ?_
  refine j_iload_n (pc := 0) hX dX9_check_0 1 rfl ?_
  refine j_if_lt (tgt := 15) (pc := 1) hX dX9_check_1 (by decide) (fun c1_1 => ?_) (fun c1_1 => ?_)
  · skip
    refine j_iconst (v := (-1)) (pc := 15) hX dX9_check_15 (by decide) ?_
    exact j_iret (pc := 16) hX hQ dX9_check_16 rfl ⟨(by first | rfl | first | (simp only [jb_t, jb_f, rCheckM, c1_1, reduceIte, eq_self, decide_true, decide_false, Bool.and_true, Bool.true_and, Bool.and_false, Bool.false_and, Bool.and_self, not_true_eq_false, not_false_eq_true, and_true, true_and, and_false, false_and, and_self]; done) | (simp [jb_t, jb_f, rCheckM, c1_1]; done)), (by first | rfl | first | (simp only [jb_t, jb_f, rCheckM, c1_1, reduceIte, eq_self, decide_true, decide_false, Bool.and_true, Bool.true_and, Bool.and_false, Bool.false_and, Bool.and_self, not_true_eq_false, not_false_eq_true, and_true, true_and, and_false, false_and, and_self]; done) | (simp [jb_t, jb_f, rCheckM, c1_1]; done))⟩
  · skip
    refine j_iload_n (pc := 4) hX dX9_check_4 1 rfl ?_
    refine j_aload_n (pc := 5) hX dX9_check_5 0 rfl ?_
    refine j_get (ci := 9) (pc := 6) hX inG9 rfl 0 (by decide) mw624 0 rfl rfl dX9_check_6 ?_
    refine j_iconst (v := 0) (pc := 9) hX dX9_check_9 (by decide) ?_
    refine j_iald (pc := 10) hX 1 rfl 0 rfl (by omega) (by omega) dX9_check_10 ?_
    refine j_top (b := nI v.2.1) (rfl) ?_
    refine j_ishr (pc := 11) hX dX9_check_11 ?_
    refine j_if_eq (tgt := 17) (pc := 12) hX dX9_check_12 (by decide) (fun c12_2 => ?_) (fun c12_2 => ?_)
    · skip
      refine j_aload_n (pc := 17) hX dX9_check_17 0 rfl ?_
      refine j_iload_n (pc := 18) hX dX9_check_18 1 rfl ?_
      refine j_callVI (n := 1) (As := [.int k]) (rest := []) (pc := 19) hX (c_X9_isCover g m a0 a1 a3 a4 a5 a7 a8 a10 a11 un sg mn ti dr rd op v k (by first | assumption | omega)) (CV.of mw744 mw745 mw31 mw52 mw746 ⟨rfl, by decide +kernel, by decide +kernel, by decide +kernel⟩ (T := TX9) (N := 16) rfl) (Nat.le_of_ble_eq_true rfl) (Nat.le_of_ble_eq_true rfl) (Nat.le_of_ble_eq_true rfl) (Nat.le_of_ble_eq_true rfl) 0 rfl [0, 1] (by decide +kernel) rfl rfl rfl (Nat.le_of_ble_eq_true rfl) dX9_check_19 (fun r3 wz hq4 => ?_)
      obtain ⟨rfl, rfl⟩ := hq4
      refine j_ws (ws2 := [(m, .inr (9, [.ref a0, .ref a1, .int (nI un), .ref a3, .ref a4, .ref a5, .int (nI sg), .ref a7, .ref a8, .int (nI mn), .ref a10, .ref a11, .int (nI ti), .int dr, .int (nI rd), .int op])), (a0, .inl (gI g, 60, .inl (nowF v)))]) rfl ?_
      refine j_if_eq (tgt := 33) (pc := 22) hX dX9_check_22 (by decide) (fun c22_5 => ?_) (fun c22_5 => ?_)
      · skip
        have c22_5b : (S_cov v.2.2.1 v.2.2.2.2 v.1 v.2.1 k) = false := jb_0.mp c22_5
        refine j_bipush (v := (-6)) (pc := 33) hX dX9_check_33 (by decide) ?_
        exact j_iret (pc := 35) hX hQ dX9_check_35 rfl ⟨(by first | rfl | first | (simp only [jb_t, jb_f, rCheckM, c1_1, c12_2, c22_5, c22_5b, reduceIte, eq_self, decide_true, decide_false, Bool.and_true, Bool.true_and, Bool.and_false, Bool.false_and, Bool.and_self, not_true_eq_false, not_false_eq_true, and_true, true_and, and_false, false_and, and_self]; done) | (simp [jb_t, jb_f, rCheckM, c1_1, c12_2, c22_5, c22_5b]; done)), (by first | rfl | first | (simp only [jb_t, jb_f, rCheckM, c1_1, c12_2, c22_5, c22_5b, reduceIte, eq_self, decide_true, decide_false, Bool.and_true, Bool.true_and, Bool.and_false, Bool.false_and, Bool.and_self, not_true_eq_false, not_false_eq_true, and_true, true_and, and_false, false_and, and_self]; done) | (simp [jb_t, jb_f, rCheckM, c1_1, c12_2, c22_5, c22_5b]; done))⟩
      · skip
        have c22_5b : (S_cov v.2.2.1 v.2.2.2.2 v.1 v.2.1 k) = true := jb_1.mp c22_5
        refine j_aload_n (pc := 25) hX dX9_check_25 0 rfl ?_
        refine j_iload_n (pc := 26) hX dX9_check_26 1 rfl ?_
        refine j_callVI (n := 1) (As := [.int k]) (rest := []) (pc := 27) hX (c_X9_pricesOf g m a0 a1 a3 a4 a5 a7 a8 a10 a11 un sg mn ti dr rd op v k (by first | assumption | omega)) (CV.of mw783 mw784 mw39 mw52 mw785 ⟨rfl, by decide +kernel, by decide +kernel, by decide +kernel⟩ (T := TX9) (N := 16) rfl) (Nat.le_of_ble_eq_true rfl) (Nat.le_of_ble_eq_true rfl) (Nat.le_of_ble_eq_true rfl) (Nat.le_of_ble_eq_true rfl) 0 rfl [0, 1] (by decide +kernel) rfl rfl rfl (Nat.le_of_ble_eq_true rfl) dX9_check_27 (fun r6 wz hq7 => ?_)
        obtain ⟨rfl, rfl⟩ := hq7
        refine j_ws (ws2 := [(m, .inr (9, [.ref a0, .ref a1, .int (nI un), .ref a3, .ref a4, .ref a5, .int (nI sg), .ref a7, .ref a8, .int (nI mn), .ref a10, .ref a11, .int (nI ti), .int dr, .int (nI rd), .int op])), (a0, .inl (gI g, 60, .inl (nowF v)))]) rfl ?_
        refine j_goto (tgt := 35) (pc := 30) hX dX9_check_30 (by decide) ?_
        exact j_iret (pc := 35) hX hQ dX9_check_35 rfl ⟨(by first | rfl | first | (simp only [jb_t, jb_f, rCheckM, c1_1, c12_2, c22_5, c22_5b, reduceIte, eq_self, decide_true, decide_false, Bool.and_true, Bool.true_and, Bool.and_false, Bool.false_and, Bool.and_self, not_true_eq_false, not_false_eq_true, and_true, true_and, and_false, false_and, and_self]; done) | (simp [jb_t, jb_f, rCheckM, c1_1, c12_2, c22_5, c22_5b]; done)), (by first | rfl | first | (simp only [jb_t, jb_f, rCheckM, c1_1, c12_2, c22_5, c22_5b, reduceIte, eq_self, decide_true, decide_false, Bool.and_true, Bool.true_and, Bool.and_false, Bool.false_and, Bool.and_self, not_true_eq_false, not_false_eq_true, and_true, true_and, and_false, false_and, and_self]; done) | (simp [jb_t, jb_f, rCheckM, c1_1, c12_2, c22_5, c22_5b]; done))⟩
    · skip
      refine j_iconst (v := (-1)) (pc := 15) hX dX9_check_15 (by decide) ?_
      exact j_iret (pc := 16) hX hQ dX9_check_16 rfl ⟨(by first | rfl | first | (simp only [jb_t, jb_f, rCheckM, c1_1, c12_2, reduceIte, eq_self, decide_true, decide_false, Bool.and_true, Bool.true_and, Bool.and_false, Bool.false_and, Bool.and_self, not_true_eq_false, not_false_eq_true, and_true, true_and, and_false, false_and, and_self]; done) | (simp [jb_t, jb_f, rCheckM, c1_1, c12_2]; done)), (by first | rfl | first | (simp only [jb_t, jb_f, rCheckM, c1_1, c12_2, reduceIte, eq_self, decide_true, decide_false, Bool.and_true, Bool.true_and, Bool.and_false, Bool.false_and, Bool.and_self, not_true_eq_false, not_false_eq_true, and_true, true_and, and_false, false_and, and_self]; done) | (simp [jb_t, jb_f, rCheckM, c1_1, c12_2]; done))⟩

set_option maxHeartbeats 4000000 in
set_option maxRecDepth 100000 in
theorem c_X9_count (g : jG) (m : Nat) (a0 : Nat) (a1 : Nat) (a3 : Nat) (a4 : Nat) (a5 : Nat) (a7 : Nat) (a8 : Nat) (a10 : Nat) (a11 : Nat) (un : Nat) (sg : Nat) (mn : Nat) (ti : Nat) (dr : Int32) (rd : Nat) (op : Int32) (v : StT) (w0 : Int32) (hv : v.2.1 ≤ 14) : jMI g yX9_count cX9_count 2 .int 4 86 [.ref m, .int w0] [(m, .inr (9, [.ref a0, .ref a1, .int (nI un), .ref a3, .ref a4, .ref a5, .int (nI sg), .ref a7, .ref a8, .int (nI mn), .ref a10, .ref a11, .int (nI ti), .int dr, .int (nI rd), .int op])), (a0, .inl (gI g, 60, .inl (nowF v)))] (fun rz wz => rz = rCountM v sg un w0 ∧ wz = [(m, .inr (9, [.ref a0, .ref a1, .int (nI un), .ref a3, .ref a4, .ref a5, .int (nI sg), .ref a7, .ref a8, .int (nI mn), .ref a10, .ref a11, .int (nI ti), .int dr, .int (nI rd), .int op])), (a0, .inl (gI g, 60, .inl (nowF v)))]) := by
  refine jMI.intro (by decide +kernel) (Nat.le_of_ble_eq_true rfl) (fun x hX hQ => ?_)
  refine j_lv (lv2 := [(0, .ref m), (1, .int w0)]) rfl ?_
  refine j_iload_n (pc := 0) hX dX9_count_0 1 rfl ?_
  by_cases s1_1 : w0 = 0
  · refine j_tabIn (off := 35) (tgt := 36) (pc := 1) hX dX9_count_1 (by rw [s1_1]; decide) (by rw [s1_1]; decide) (by rw [s1_1]; decide) (by decide) ?_
    subst s1_1
    refine j_aload_n (pc := 36) hX dX9_count_36 0 rfl ?_
    refine j_get (ci := 9) (pc := 37) hX inG9 rfl 0 (by decide) mw624 0 rfl rfl dX9_count_37 ?_
    refine j_iload_n (pc := 40) hX dX9_count_40 1 rfl ?_
    refine j_iald (pc := 41) hX 1 rfl 0 rfl (by omega) (by omega) dX9_count_41 ?_
    refine j_top (b := nI v.2.1) (rfl) ?_
    exact j_iret (pc := 42) hX hQ dX9_count_42 rfl ⟨(by first | rfl | (simp [rCountM]; done) | first | (simp only [jb_t, jb_f, rCountM, reduceIte, eq_self, decide_true, decide_false, Bool.and_true, Bool.true_and, Bool.and_false, Bool.false_and, Bool.and_self, not_true_eq_false, not_false_eq_true, and_true, true_and, and_false, false_and, and_self]; done) | (simp [jb_t, jb_f, rCountM]; done)), (by first | rfl | first | (simp only [jb_t, jb_f, reduceIte, eq_self, decide_true, decide_false, Bool.and_true, Bool.true_and, Bool.and_false, Bool.false_and, Bool.and_self, not_true_eq_false, not_false_eq_true, and_true, true_and, and_false, false_and, and_self]; done) | (simp [jb_t, jb_f]; done))⟩
  by_cases s1_2 : w0 = 1
  · refine j_tabIn (off := 35) (tgt := 36) (pc := 1) hX dX9_count_1 (by rw [s1_2]; decide) (by rw [s1_2]; decide) (by rw [s1_2]; decide) (by decide) ?_
    subst s1_2
    refine j_aload_n (pc := 36) hX dX9_count_36 0 rfl ?_
    refine j_get (ci := 9) (pc := 37) hX inG9 rfl 0 (by decide) mw624 0 rfl rfl dX9_count_37 ?_
    refine j_iload_n (pc := 40) hX dX9_count_40 1 rfl ?_
    refine j_iald (pc := 41) hX 1 rfl 1 rfl (by omega) (by omega) dX9_count_41 ?_
    refine j_top (b := v.1) (rfl) ?_
    exact j_iret (pc := 42) hX hQ dX9_count_42 rfl ⟨(by first | rfl | (simp [rCountM]; done) | first | (simp only [jb_t, jb_f, rCountM, reduceIte, eq_self, decide_true, decide_false, Bool.and_true, Bool.true_and, Bool.and_false, Bool.false_and, Bool.and_self, not_true_eq_false, not_false_eq_true, and_true, true_and, and_false, false_and, and_self]; done) | (simp [jb_t, jb_f, rCountM]; done)), (by first | rfl | first | (simp only [jb_t, jb_f, reduceIte, eq_self, decide_true, decide_false, Bool.and_true, Bool.true_and, Bool.and_false, Bool.false_and, Bool.and_self, not_true_eq_false, not_false_eq_true, and_true, true_and, and_false, false_and, and_self]; done) | (simp [jb_t, jb_f]; done))⟩
  by_cases s1_3 : w0 = 2
  · refine j_tabIn (off := 42) (tgt := 43) (pc := 1) hX dX9_count_1 (by rw [s1_3]; decide) (by rw [s1_3]; decide) (by rw [s1_3]; decide) (by decide) ?_
    subst s1_3
    refine j_aload_n (pc := 43) hX dX9_count_43 0 rfl ?_
    refine j_callVI (n := 0) (As := []) (rest := []) (pc := 44) hX (c_X9_hasCover g m a0 a1 a3 a4 a5 a7 a8 a10 a11 un sg mn ti dr rd op v (by first | assumption | omega)) (CV.of mw741 mw742 mw30 mw52 mw743 ⟨rfl, by decide +kernel, by decide +kernel, by decide +kernel⟩ (T := TX9) (N := 16) rfl) (Nat.le_of_ble_eq_true rfl) (Nat.le_of_ble_eq_true rfl) (Nat.le_of_ble_eq_true rfl) (Nat.le_of_ble_eq_true rfl) 0 rfl [0, 1] (by decide +kernel) rfl rfl rfl (Nat.le_of_ble_eq_true rfl) dX9_count_44 (fun r4 wz hq5 => ?_)
    obtain ⟨rfl, rfl⟩ := hq5
    refine j_ws (ws2 := [(m, .inr (9, [.ref a0, .ref a1, .int (nI un), .ref a3, .ref a4, .ref a5, .int (nI sg), .ref a7, .ref a8, .int (nI mn), .ref a10, .ref a11, .int (nI ti), .int dr, .int (nI rd), .int op])), (a0, .inl (gI g, 60, .inl (nowF v)))]) rfl ?_
    refine j_if_eq (tgt := 54) (pc := 47) hX dX9_count_47 (by decide) (fun c47_6 => ?_) (fun c47_6 => ?_)
    · skip
      have c47_6b : (hasM v) = false := jb_0.mp c47_6
      refine j_iconst (v := 0) (pc := 54) hX dX9_count_54 (by decide) ?_
      exact j_iret (pc := 55) hX hQ dX9_count_55 rfl ⟨(by first | rfl | (simp [rCountM]; done) | first | (simp only [jb_t, jb_f, rCountM, c47_6, c47_6b, reduceIte, eq_self, decide_true, decide_false, Bool.and_true, Bool.true_and, Bool.and_false, Bool.false_and, Bool.and_self, not_true_eq_false, not_false_eq_true, and_true, true_and, and_false, false_and, and_self]; done) | (simp [jb_t, jb_f, rCountM, c47_6, c47_6b]; done)), (by first | rfl | first | (simp only [jb_t, jb_f, c47_6, c47_6b, reduceIte, eq_self, decide_true, decide_false, Bool.and_true, Bool.true_and, Bool.and_false, Bool.false_and, Bool.and_self, not_true_eq_false, not_false_eq_true, and_true, true_and, and_false, false_and, and_self]; done) | (simp [jb_t, jb_f, c47_6, c47_6b]; done))⟩
    · skip
      have c47_6b : (hasM v) = true := jb_1.mp c47_6
      refine j_iconst (v := 1) (pc := 50) hX dX9_count_50 (by decide) ?_
      refine j_goto (tgt := 55) (pc := 51) hX dX9_count_51 (by decide) ?_
      exact j_iret (pc := 55) hX hQ dX9_count_55 rfl ⟨(by first | rfl | (simp [rCountM]; done) | first | (simp only [jb_t, jb_f, rCountM, c47_6, c47_6b, reduceIte, eq_self, decide_true, decide_false, Bool.and_true, Bool.true_and, Bool.and_false, Bool.false_and, Bool.and_self, not_true_eq_false, not_false_eq_true, and_true, true_and, and_false, false_and, and_self]; done) | (simp [jb_t, jb_f, rCountM, c47_6, c47_6b]; done)), (by first | rfl | first | (simp only [jb_t, jb_f, c47_6, c47_6b, reduceIte, eq_self, decide_true, decide_false, Bool.and_true, Bool.true_and, Bool.and_false, Bool.false_and, Bool.and_self, not_true_eq_false, not_false_eq_true, and_true, true_and, and_false, false_and, and_self]; done) | (simp [jb_t, jb_f, c47_6, c47_6b]; done))⟩
  by_cases s1_7 : w0 = 3
  · refine j_tabIn (off := 55) (tgt := 56) (pc := 1) hX dX9_count_1 (by rw [s1_7]; decide) (by rw [s1_7]; decide) (by rw [s1_7]; decide) (by decide) ?_
    subst s1_7
    refine j_aload_n (pc := 56) hX dX9_count_56 0 rfl ?_
    refine j_callVI (n := 0) (As := []) (rest := []) (pc := 57) hX (c_X9_mostSets g m a0 a1 a3 a4 a5 a7 a8 a10 a11 un sg mn ti dr rd op v (by first | assumption | omega)) (CV.of mw773 mw774 mw38 mw52 mw775 ⟨rfl, by decide +kernel, by decide +kernel, by decide +kernel⟩ (T := TX9) (N := 16) rfl) (Nat.le_of_ble_eq_true rfl) (Nat.le_of_ble_eq_true rfl) (Nat.le_of_ble_eq_true rfl) (Nat.le_of_ble_eq_true rfl) 0 rfl [0, 1] (by decide +kernel) rfl rfl rfl (Nat.le_of_ble_eq_true rfl) dX9_count_57 (fun r8 wz hq9 => ?_)
    obtain ⟨rfl, rfl⟩ := hq9
    refine j_ws (ws2 := [(m, .inr (9, [.ref a0, .ref a1, .int (nI un), .ref a3, .ref a4, .ref a5, .int (nI sg), .ref a7, .ref a8, .int (nI mn), .ref a10, .ref a11, .int (nI ti), .int dr, .int (nI rd), .int op])), (a0, .inl (gI g, 60, .inl (nowF v)))]) rfl ?_
    exact j_iret (pc := 60) hX hQ dX9_count_60 rfl ⟨(by first | rfl | (simp [rCountM]; done) | first | (simp only [jb_t, jb_f, rCountM, reduceIte, eq_self, decide_true, decide_false, Bool.and_true, Bool.true_and, Bool.and_false, Bool.false_and, Bool.and_self, not_true_eq_false, not_false_eq_true, and_true, true_and, and_false, false_and, and_self]; done) | (simp [jb_t, jb_f, rCountM]; done)), (by first | rfl | first | (simp only [jb_t, jb_f, reduceIte, eq_self, decide_true, decide_false, Bool.and_true, Bool.true_and, Bool.and_false, Bool.false_and, Bool.and_self, not_true_eq_false, not_false_eq_true, and_true, true_and, and_false, false_and, and_self]; done) | (simp [jb_t, jb_f]; done))⟩
  by_cases s1_10 : w0 = 4
  · refine j_tabIn (off := 60) (tgt := 61) (pc := 1) hX dX9_count_1 (by rw [s1_10]; decide) (by rw [s1_10]; decide) (by rw [s1_10]; decide) (by decide) ?_
    subst s1_10
    refine j_aload_n (pc := 61) hX dX9_count_61 0 rfl ?_
    refine j_get (ci := 9) (pc := 62) hX inG9 rfl 6 (by decide) mw630 0 rfl rfl dX9_count_62 ?_
    exact j_iret (pc := 65) hX hQ dX9_count_65 rfl ⟨(by first | rfl | (simp [rCountM]; done) | first | (simp only [jb_t, jb_f, rCountM, reduceIte, eq_self, decide_true, decide_false, Bool.and_true, Bool.true_and, Bool.and_false, Bool.false_and, Bool.and_self, not_true_eq_false, not_false_eq_true, and_true, true_and, and_false, false_and, and_self]; done) | (simp [jb_t, jb_f, rCountM]; done)), (by first | rfl | first | (simp only [jb_t, jb_f, reduceIte, eq_self, decide_true, decide_false, Bool.and_true, Bool.true_and, Bool.and_false, Bool.false_and, Bool.and_self, not_true_eq_false, not_false_eq_true, and_true, true_and, and_false, false_and, and_self]; done) | (simp [jb_t, jb_f]; done))⟩
  refine j_tabOut (tgt := 66) (pc := 1) hX dX9_count_1 (jsw0_4 s1_1 s1_2 s1_3 s1_7 s1_10) (by decide) ?_
  refine j_iload_n (pc := 66) hX dX9_count_66 1 rfl ?_
  refine j_iconst (v := 5) (pc := 67) hX dX9_count_67 (by decide) ?_
  refine j_icmp_ne (tgt := 78) (pc := 68) hX dX9_count_68 (by decide) (fun c68_11 => ?_) (fun c68_11 => ?_)
  · skip
    refine j_bipush (v := (-2)) (pc := 78) hX dX9_count_78 (by decide) ?_
    exact j_iret (pc := 80) hX hQ dX9_count_80 rfl ⟨(by first | rfl | (simp [rCountM]; done) | first | (simp (decide := true) only [jb_t, jb_f, rCountM, s1_1, s1_2, s1_3, s1_7, s1_10, c68_11, reduceIte, eq_self, decide_true, decide_false, Bool.and_true, Bool.true_and, Bool.and_false, Bool.false_and, Bool.and_self, not_true_eq_false, not_false_eq_true, and_true, true_and, and_false, false_and, and_self]; done) | (simp [jb_t, jb_f, rCountM, s1_1, s1_2, s1_3, s1_7, s1_10, c68_11]; done)), (by first | rfl | first | (simp (decide := true) only [jb_t, jb_f, s1_1, s1_2, s1_3, s1_7, s1_10, c68_11, reduceIte, eq_self, decide_true, decide_false, Bool.and_true, Bool.true_and, Bool.and_false, Bool.false_and, Bool.and_self, not_true_eq_false, not_false_eq_true, and_true, true_and, and_false, false_and, and_self]; done) | (simp [jb_t, jb_f, s1_1, s1_2, s1_3, s1_7, s1_10, c68_11]; done))⟩
  · skip
    refine j_aload_n (pc := 71) hX dX9_count_71 0 rfl ?_
    refine j_get (ci := 9) (pc := 72) hX inG9 rfl 2 (by decide) mw626 0 rfl rfl dX9_count_72 ?_
    refine j_goto (tgt := 80) (pc := 75) hX dX9_count_75 (by decide) ?_
    exact j_iret (pc := 80) hX hQ dX9_count_80 rfl ⟨(by first | rfl | (simp [rCountM]; done) | first | (simp (decide := true) only [jb_t, jb_f, rCountM, s1_1, s1_2, s1_3, s1_7, s1_10, c68_11, reduceIte, eq_self, decide_true, decide_false, Bool.and_true, Bool.true_and, Bool.and_false, Bool.false_and, Bool.and_self, not_true_eq_false, not_false_eq_true, and_true, true_and, and_false, false_and, and_self]; done) | (simp [jb_t, jb_f, rCountM, s1_1, s1_2, s1_3, s1_7, s1_10, c68_11]; done)), (by first | rfl | first | (simp (decide := true) only [jb_t, jb_f, s1_1, s1_2, s1_3, s1_7, s1_10, c68_11, reduceIte, eq_self, decide_true, decide_false, Bool.and_true, Bool.true_and, Bool.and_false, Bool.false_and, Bool.and_self, not_true_eq_false, not_false_eq_true, and_true, true_and, and_false, false_and, and_self]; done) | (simp [jb_t, jb_f, s1_1, s1_2, s1_3, s1_7, s1_10, c68_11]; done))⟩

set_option maxHeartbeats 4000000 in
set_option maxRecDepth 100000 in
theorem c_X9_least (g : jG) (m : Nat) (a0 : Nat) (a1 : Nat) (a3 : Nat) (a4 : Nat) (a5 : Nat) (a7 : Nat) (a8 : Nat) (a10 : Nat) (a11 : Nat) (un : Nat) (sg : Nat) (mn : Nat) (ti : Nat) (dr : Int32) (rd : Nat) (op : Int32) (v : StT) (w0 : Int32) (hv : v.2.1 ≤ 14) : jMI g yX9_least cX9_least 3 .int 4 91 [.ref m, .int w0] [(m, .inr (9, [.ref a0, .ref a1, .int (nI un), .ref a3, .ref a4, .ref a5, .int (nI sg), .ref a7, .ref a8, .int (nI mn), .ref a10, .ref a11, .int (nI ti), .int dr, .int (nI rd), .int op])), (a0, .inl (gI g, 60, .inl (nowF v)))] (fun rz wz => rz = rLeastM v w0 ∧ wz = [(m, .inr (9, [.ref a0, .ref a1, .int (nI un), .ref a3, .ref a4, .ref a5, .int (nI sg), .ref a7, .ref a8, .int (nI mn), .ref a10, .ref a11, .int (nI ti), .int dr, .int (nI rd), .int op])), (a0, .inl (gI g, 60, .inl (nowF v)))]) := by
  refine jMI.intro (by decide +kernel) (Nat.le_of_ble_eq_true rfl) (fun x hX hQ => ?_)
  refine j_lv (lv2 := [(0, .ref m), (1, .int w0)]) rfl ?_
  refine j_iload_n (pc := 0) hX dX9_least_0 1 rfl ?_
  refine j_iconst (v := 0) (pc := 1) hX dX9_least_1 (by decide) ?_
  refine j_iconst (v := 1) (pc := 2) hX dX9_least_2 (by decide) ?_
  refine j_callSI (n := 3) (As := [.int w0, .int 0, .int 1]) (rest := []) (pc := 3) hX (c_X9_in g w0 0 1 ) (CS.of mw661 mw662 mw52 mw663 ⟨by decide +kernel, by decide +kernel, by decide +kernel⟩) (Nat.le_of_ble_eq_true rfl) (Nat.le_of_ble_eq_true rfl) (Nat.le_of_ble_eq_true rfl) (Nat.le_of_ble_eq_true rfl) [] (by decide +kernel) rfl rfl rfl (Nat.le_of_ble_eq_true rfl) dX9_least_3 (fun r1 wz hq2 => ?_)
  obtain ⟨rfl, rfl⟩ := hq2
  refine j_ws (ws2 := [(m, .inr (9, [.ref a0, .ref a1, .int (nI un), .ref a3, .ref a4, .ref a5, .int (nI sg), .ref a7, .ref a8, .int (nI mn), .ref a10, .ref a11, .int (nI ti), .int dr, .int (nI rd), .int op])), (a0, .inl (gI g, 60, .inl (nowF v)))]) rfl ?_
  refine j_if_ne (tgt := 12) (pc := 6) hX dX9_least_6 (by decide) (fun c6_3 => ?_) (fun c6_3 => ?_)
  · skip
    have c6_3b : (S_in w0 0 1) = true := jb_1.mp c6_3
    refine j_aload_n (pc := 12) hX dX9_least_12 0 rfl ?_
    refine j_iconst (v := 0) (pc := 13) hX dX9_least_13 (by decide) ?_
    refine j_iconst (v := 0) (pc := 14) hX dX9_least_14 (by decide) ?_
    refine j_callVI (n := 2) (As := [.int 0, .int 0]) (rest := []) (pc := 15) hX (c_X9_leastWith g m a0 a1 a3 a4 a5 a7 a8 a10 a11 un sg mn ti dr rd op v 0 0 (by first | assumption | omega)) (CV.of mw794 mw795 mw40 mw52 mw796 ⟨rfl, by decide +kernel, by decide +kernel, by decide +kernel⟩ (T := TX9) (N := 16) rfl) (Nat.le_of_ble_eq_true rfl) (Nat.le_of_ble_eq_true rfl) (Nat.le_of_ble_eq_true rfl) (Nat.le_of_ble_eq_true rfl) 0 rfl [0, 1] (by decide +kernel) rfl rfl rfl (Nat.le_of_ble_eq_true rfl) dX9_least_15 (fun r4 wz hq5 => ?_)
    obtain ⟨rfl, rfl⟩ := hq5
    refine j_ws (ws2 := [(m, .inr (9, [.ref a0, .ref a1, .int (nI un), .ref a3, .ref a4, .ref a5, .int (nI sg), .ref a7, .ref a8, .int (nI mn), .ref a10, .ref a11, .int (nI ti), .int dr, .int (nI rd), .int op])), (a0, .inl (gI g, 60, .inl (nowF v)))]) rfl ?_
    refine j_istore_n (lv2 := [(0, .ref m), (1, .int w0), (2, .int (oN (lW v 0 0 (wM v)).1))]) (pc := 18) hX dX9_least_18 [1, 2, 0] (by decide) rfl ?_
    refine j_iload_n (pc := 19) hX dX9_least_19 2 rfl ?_
    refine j_if_ge (tgt := 28) (pc := 20) hX dX9_least_20 (by decide) (fun c20_6 => ?_) (fun c20_6 => ?_)
    · skip
      refine j_iload_n (pc := 28) hX dX9_least_28 1 rfl ?_
      refine j_if_ne (tgt := 36) (pc := 29) hX dX9_least_29 (by decide) (fun c29_7 => ?_) (fun c29_7 => ?_)
      · skip
        refine j_aload_n (pc := 36) hX dX9_least_36 0 rfl ?_
        refine j_iload_n (pc := 37) hX dX9_least_37 2 rfl ?_
        refine j_callVI (n := 1) (As := [.int (oN (lW v 0 0 (wM v)).1)]) (rest := []) (pc := 38) hX (c_X9_pricesOf g m a0 a1 a3 a4 a5 a7 a8 a10 a11 un sg mn ti dr rd op v (oN (lW v 0 0 (wM v)).1) (by first | assumption | omega)) (CV.of mw783 mw784 mw39 mw52 mw785 ⟨rfl, by decide +kernel, by decide +kernel, by decide +kernel⟩ (T := TX9) (N := 16) rfl) (Nat.le_of_ble_eq_true rfl) (Nat.le_of_ble_eq_true rfl) (Nat.le_of_ble_eq_true rfl) (Nat.le_of_ble_eq_true rfl) 0 rfl [0, 1] (by decide +kernel) rfl rfl rfl (Nat.le_of_ble_eq_true rfl) dX9_least_38 (fun r8 wz hq9 => ?_)
        obtain ⟨rfl, rfl⟩ := hq9
        refine j_ws (ws2 := [(m, .inr (9, [.ref a0, .ref a1, .int (nI un), .ref a3, .ref a4, .ref a5, .int (nI sg), .ref a7, .ref a8, .int (nI mn), .ref a10, .ref a11, .int (nI ti), .int dr, .int (nI rd), .int op])), (a0, .inl (gI g, 60, .inl (nowF v)))]) rfl ?_
        exact j_iret (pc := 41) hX hQ dX9_least_41 rfl ⟨(by unfold rLeastM; (first | rw [if_pos c6_3b] | rw [if_neg c6_3b] | rw [if_neg (nbt c6_3b)]); (first | rw [if_pos c20_6] | rw [if_neg c20_6] | rw [if_neg (nbt c20_6)]); (first | rw [if_pos c29_7] | rw [if_neg c29_7] | rw [if_neg (nbt c29_7)]); try rfl), (by first | rfl | first | (simp only [jb_t, jb_f, c6_3, c6_3b, c20_6, c29_7, reduceIte, eq_self, decide_true, decide_false, Bool.and_true, Bool.true_and, Bool.and_false, Bool.false_and, Bool.and_self, not_true_eq_false, not_false_eq_true, and_true, true_and, and_false, false_and, and_self]; done) | (simp [jb_t, jb_f, c6_3, c6_3b, c20_6, c29_7]; done))⟩
      · skip
        refine j_iload_n (pc := 32) hX dX9_least_32 2 rfl ?_
        refine j_goto (tgt := 41) (pc := 33) hX dX9_least_33 (by decide) ?_
        exact j_iret (pc := 41) hX hQ dX9_least_41 rfl ⟨(by unfold rLeastM; (first | rw [if_pos c6_3b] | rw [if_neg c6_3b] | rw [if_neg (nbt c6_3b)]); (first | rw [if_pos c20_6] | rw [if_neg c20_6] | rw [if_neg (nbt c20_6)]); (first | rw [if_pos c29_7] | rw [if_neg c29_7] | rw [if_neg (nbt c29_7)]); try rfl), (by first | rfl | first | (simp only [jb_t, jb_f, c6_3, c6_3b, c20_6, c29_7, reduceIte, eq_self, decide_true, decide_false, Bool.and_true, Bool.true_and, Bool.and_false, Bool.false_and, Bool.and_self, not_true_eq_false, not_false_eq_true, and_true, true_and, and_false, false_and, and_self]; done) | (simp [jb_t, jb_f, c6_3, c6_3b, c20_6, c29_7]; done))⟩
    · skip
      refine j_bipush (v := (-5)) (pc := 23) hX dX9_least_23 (by decide) ?_
      refine j_goto (tgt := 41) (pc := 25) hX dX9_least_25 (by decide) ?_
      exact j_iret (pc := 41) hX hQ dX9_least_41 rfl ⟨(by unfold rLeastM; (first | rw [if_pos c6_3b] | rw [if_neg c6_3b] | rw [if_neg (nbt c6_3b)]); (first | rw [if_pos c20_6] | rw [if_neg c20_6] | rw [if_neg (nbt c20_6)]); try rfl), (by first | rfl | first | (simp only [jb_t, jb_f, c6_3, c6_3b, c20_6, reduceIte, eq_self, decide_true, decide_false, Bool.and_true, Bool.true_and, Bool.and_false, Bool.false_and, Bool.and_self, not_true_eq_false, not_false_eq_true, and_true, true_and, and_false, false_and, and_self]; done) | (simp [jb_t, jb_f, c6_3, c6_3b, c20_6]; done))⟩
  · skip
    have c6_3b : (S_in w0 0 1) = false := jb_0.mp c6_3
    refine j_bipush (v := (-2)) (pc := 9) hX dX9_least_9 (by decide) ?_
    exact j_iret (pc := 11) hX hQ dX9_least_11 rfl ⟨(by unfold rLeastM; (first | rw [if_pos c6_3b] | rw [if_neg c6_3b] | rw [if_neg (nbt c6_3b)]); try rfl), (by first | rfl | first | (simp only [jb_t, jb_f, c6_3, c6_3b, reduceIte, eq_self, decide_true, decide_false, Bool.and_true, Bool.true_and, Bool.and_false, Bool.false_and, Bool.and_self, not_true_eq_false, not_false_eq_true, and_true, true_and, and_false, false_and, and_self]; done) | (simp [jb_t, jb_f, c6_3, c6_3b]; done))⟩

set_option maxHeartbeats 4000000 in
set_option maxRecDepth 100000 in
theorem c_X9_covers (g : jG) (m : Nat) (a0 : Nat) (a1 : Nat) (a3 : Nat) (a4 : Nat) (a5 : Nat) (a7 : Nat) (a8 : Nat) (a10 : Nat) (a11 : Nat) (un : Nat) (sg : Nat) (mn : Nat) (ti : Nat) (dr : Int32) (rd : Nat) (op : Int32) (v : StT) (x0 : Int32) (hv : v.2.1 ≤ 14) : jMI g yX9_covers cX9_covers 4 .int 3 66 [.ref m, .int x0] [(m, .inr (9, [.ref a0, .ref a1, .int (nI un), .ref a3, .ref a4, .ref a5, .int (nI sg), .ref a7, .ref a8, .int (nI mn), .ref a10, .ref a11, .int (nI ti), .int dr, .int (nI rd), .int op])), (a0, .inl (gI g, 60, .inl (nowF v)))] (fun rz wz => rz = rCovM v x0 ∧ wz = [(m, .inr (9, [.ref a0, .ref a1, .int (nI un), .ref a3, .ref a4, .ref a5, .int (nI sg), .ref a7, .ref a8, .int (nI mn), .ref a10, .ref a11, .int (nI ti), .int dr, .int (nI rd), .int op])), (a0, .inl (gI g, 60, .inl (nowF v)))]) := by
  refine jMI.intro (by decide +kernel) (Nat.le_of_ble_eq_true rfl) (fun x hX hQ => ?_)
  refine j_lv (lv2 := [(0, .ref m), (1, .int x0)]) rfl ?_
  have hw5 := wM_le hv
  refine j_iload_n (pc := 0) hX dX9_covers_0 1 rfl ?_
  refine j_iconst (v := 0) (pc := 1) hX dX9_covers_1 (by decide) ?_
  refine j_sipush (v := 7000) (pc := 2) hX dX9_covers_2 (by decide) ?_
  refine j_callSI (n := 3) (As := [.int x0, .int 0, .int 7000]) (rest := []) (pc := 5) hX (c_X9_in g x0 0 7000 ) (CS.of mw661 mw662 mw52 mw663 ⟨by decide +kernel, by decide +kernel, by decide +kernel⟩) (Nat.le_of_ble_eq_true rfl) (Nat.le_of_ble_eq_true rfl) (Nat.le_of_ble_eq_true rfl) (Nat.le_of_ble_eq_true rfl) [] (by decide +kernel) rfl rfl rfl (Nat.le_of_ble_eq_true rfl) dX9_covers_5 (fun r1 wz hq2 => ?_)
  obtain ⟨rfl, rfl⟩ := hq2
  refine j_ws (ws2 := [(m, .inr (9, [.ref a0, .ref a1, .int (nI un), .ref a3, .ref a4, .ref a5, .int (nI sg), .ref a7, .ref a8, .int (nI mn), .ref a10, .ref a11, .int (nI ti), .int dr, .int (nI rd), .int op])), (a0, .inl (gI g, 60, .inl (nowF v)))]) rfl ?_
  refine j_if_ne (tgt := 14) (pc := 8) hX dX9_covers_8 (by decide) (fun c8_3 => ?_) (fun c8_3 => ?_)
  · skip
    have c8_3b : (S_in x0 0 7000) = true := jb_1.mp c8_3
    refine j_iconst (v := 0) (pc := 14) hX dX9_covers_14 (by decide) ?_
    refine j_istore_n (lv2 := [(0, .ref m), (1, .int x0), (2, .int 0)]) (pc := 15) hX dX9_covers_15 [1, 2, 0] (by decide) rfl ?_
    refine j_iconst (v := 0) (pc := 16) hX dX9_covers_16 (by decide) ?_
    refine j_istore_n (lv2 := [(0, .ref m), (1, .int x0), (2, .int 0), (3, .int 0)]) (pc := 17) hX dX9_covers_17 [1, 2, 3, 0] (by decide) rfl ?_
    have L18 : ∀ (d : Nat) (i : Nat), i ≤ wM v → wM v - i = d → J g x 4 0 0 18 [(0, .ref m), (1, .int x0), (2, .int (nI (cnM v x0 i))), (3, .int (nI i))] [] [(m, .inr (9, [.ref a0, .ref a1, .int (nI un), .ref a3, .ref a4, .ref a5, .int (nI sg), .ref a7, .ref a8, .int (nI mn), .ref a10, .ref a11, .int (nI ti), .int dr, .int (nI rd), .int op])), (a0, .inl (gI g, 60, .inl (nowF v)))] := by
      intro d
      induction d using Nat.strongRecOn with
      | _ d ih18 =>
        intro i hi hd18
        refine j_iload_n (pc := 18) hX dX9_covers_18 3 rfl ?_
        refine j_aload_n (pc := 19) hX dX9_covers_19 0 rfl ?_
        refine j_callVI (n := 0) (As := []) (rest := [.int (nI i)]) (pc := 20) hX (c_X9_masks g m a0 a1 a3 a4 a5 a7 a8 a10 a11 un sg mn ti dr rd op v (by first | assumption | omega)) (CV.of mw729 mw730 mw27 mw52 mw731 ⟨rfl, by decide +kernel, by decide +kernel, by decide +kernel⟩ (T := TX9) (N := 16) rfl) (Nat.le_of_ble_eq_true rfl) (Nat.le_of_ble_eq_true rfl) (Nat.le_of_ble_eq_true rfl) (Nat.le_of_ble_eq_true rfl) 0 rfl [0, 1] (by decide +kernel) rfl rfl rfl (Nat.le_of_ble_eq_true rfl) dX9_covers_20 (fun r4 wz hq5 => ?_)
        obtain ⟨rfl, rfl⟩ := hq5
        refine j_ws (ws2 := [(m, .inr (9, [.ref a0, .ref a1, .int (nI un), .ref a3, .ref a4, .ref a5, .int (nI sg), .ref a7, .ref a8, .int (nI mn), .ref a10, .ref a11, .int (nI ti), .int dr, .int (nI rd), .int op])), (a0, .inl (gI g, 60, .inl (nowF v)))]) rfl ?_
        refine j_icmp_ge (tgt := 57) (pc := 23) hX dX9_covers_23 (by decide) (fun c23_6 => ?_) (fun c23_6 => ?_)
        · skip
          have c23_6n : (wM v) ≤ i := (nI_leI (a := (wM v)) (b := i) (by omega) (by omega)).mp c23_6
          have c23_6m : ¬ i < (wM v) := by omega
          refine j_iload_n (pc := 57) hX dX9_covers_57 2 rfl ?_
          exact j_iret (pc := 58) hX hQ dX9_covers_58 rfl ⟨(by rw [show i = wM v by omega]; unfold rCovM; (first | rw [if_pos c8_3b] | rw [if_neg c8_3b] | rw [if_neg (nbt c8_3b)])), (by first | rfl | first | (simp only [jb_t, jb_f, c8_3, c8_3b, c23_6, c23_6n, c23_6m, reduceIte, eq_self, decide_true, decide_false, Bool.and_true, Bool.true_and, Bool.and_false, Bool.false_and, Bool.and_self, not_true_eq_false, not_false_eq_true, and_true, true_and, and_false, false_and, and_self]; done) | (simp [jb_t, jb_f, c8_3, c8_3b, c23_6, c23_6n, c23_6m]; done))⟩
        · skip
          have c23_6n : ¬ (wM v) ≤ i := fun h9 => c23_6 ((nI_leI (a := (wM v)) (b := i) (by omega) (by omega)).mpr h9)
          have c23_6m : i < (wM v) := by omega
          refine j_iload_n (pc := 26) hX dX9_covers_26 2 rfl ?_
          refine j_aload_n (pc := 27) hX dX9_covers_27 0 rfl ?_
          refine j_iload_n (pc := 28) hX dX9_covers_28 3 rfl ?_
          refine j_callVI (n := 1) (As := [.int (nI i)]) (rest := [.int (nI (cnM v x0 i))]) (pc := 29) hX (c_X9_isCover g m a0 a1 a3 a4 a5 a7 a8 a10 a11 un sg mn ti dr rd op v (nI i) (by first | assumption | omega)) (CV.of mw744 mw745 mw31 mw52 mw746 ⟨rfl, by decide +kernel, by decide +kernel, by decide +kernel⟩ (T := TX9) (N := 16) rfl) (Nat.le_of_ble_eq_true rfl) (Nat.le_of_ble_eq_true rfl) (Nat.le_of_ble_eq_true rfl) (Nat.le_of_ble_eq_true rfl) 0 rfl [0, 1] (by decide +kernel) rfl rfl rfl (Nat.le_of_ble_eq_true rfl) dX9_covers_29 (fun r7 wz hq8 => ?_)
          obtain ⟨rfl, rfl⟩ := hq8
          refine j_ws (ws2 := [(m, .inr (9, [.ref a0, .ref a1, .int (nI un), .ref a3, .ref a4, .ref a5, .int (nI sg), .ref a7, .ref a8, .int (nI mn), .ref a10, .ref a11, .int (nI ti), .int dr, .int (nI rd), .int op])), (a0, .inl (gI g, 60, .inl (nowF v)))]) rfl ?_
          refine j_if_eq (tgt := 48) (pc := 32) hX dX9_covers_32 (by decide) (fun c32_9 => ?_) (fun c32_9 => ?_)
          · skip
            have c32_9b : (S_cov v.2.2.1 v.2.2.2.2 v.1 v.2.1 (nI i)) = false := jb_0.mp c32_9
            refine j_iconst (v := 0) (pc := 48) hX dX9_covers_48 (by decide) ?_
            refine j_iadd (pc := 49) hX dX9_covers_49 ?_
            refine j_top (b := nI ((cnM v x0 i) + 0)) (nI_add (cnM v x0 i) 0) ?_
            refine j_istore_n (lv2 := [(0, .ref m), (1, .int x0), (2, .int (nI ((cnM v x0 i) + 0))), (3, .int (nI i))]) (pc := 50) hX dX9_covers_50 [1, 2, 0, 3] (by decide) rfl ?_
            refine j_iinc (v := nI (i + 1)) (lv2 := [(0, .ref m), (1, .int x0), (2, .int (nI ((cnM v x0 i) + 0))), (3, .int (nI (i + 1)))]) (pc := 51) hX dX9_covers_51 3 rfl (nI_add i 1) [1, 2, 3, 0] (by decide) rfl ?_
            refine j_goto (tgt := 18) (pc := 54) hX dX9_covers_54 (by decide) ?_
            exact j_eq (lv2 := [(0, .ref m), (1, .int x0), (2, .int (nI (cnM v x0 (i + 1)))), (3, .int (nI (i + 1)))]) (ws2 := [(m, .inr (9, [.ref a0, .ref a1, .int (nI un), .ref a3, .ref a4, .ref a5, .int (nI sg), .ref a7, .ref a8, .int (nI mn), .ref a10, .ref a11, .int (nI ti), .int dr, .int (nI rd), .int op])), (a0, .inl (gI g, 60, .inl (nowF v)))]) (by first | rfl | (simp only [cnM, c8_3, c8_3b, c23_6, c23_6n, c23_6m, c32_9, c32_9b, reduceIte, eq_self]; first | done | rfl)) (by first | rfl | (simp only [cnM, c8_3, c8_3b, c23_6, c23_6n, c23_6m, c32_9, c32_9b, reduceIte, eq_self]; first | done | rfl)) (ih18 _ (by omega) (i + 1) (by omega) rfl)
          · skip
            have c32_9b : (S_cov v.2.2.1 v.2.2.2.2 v.1 v.2.1 (nI i)) = true := jb_1.mp c32_9
            refine j_aload_n (pc := 35) hX dX9_covers_35 0 rfl ?_
            refine j_iload_n (pc := 36) hX dX9_covers_36 3 rfl ?_
            refine j_callVI (n := 1) (As := [.int (nI i)]) (rest := [.int (nI (cnM v x0 i))]) (pc := 37) hX (c_X9_pricesOf g m a0 a1 a3 a4 a5 a7 a8 a10 a11 un sg mn ti dr rd op v (nI i) (by first | assumption | omega)) (CV.of mw783 mw784 mw39 mw52 mw785 ⟨rfl, by decide +kernel, by decide +kernel, by decide +kernel⟩ (T := TX9) (N := 16) rfl) (Nat.le_of_ble_eq_true rfl) (Nat.le_of_ble_eq_true rfl) (Nat.le_of_ble_eq_true rfl) (Nat.le_of_ble_eq_true rfl) 0 rfl [0, 1] (by decide +kernel) rfl rfl rfl (Nat.le_of_ble_eq_true rfl) dX9_covers_37 (fun r10 wz hq11 => ?_)
            obtain ⟨rfl, rfl⟩ := hq11
            refine j_ws (ws2 := [(m, .inr (9, [.ref a0, .ref a1, .int (nI un), .ref a3, .ref a4, .ref a5, .int (nI sg), .ref a7, .ref a8, .int (nI mn), .ref a10, .ref a11, .int (nI ti), .int dr, .int (nI rd), .int op])), (a0, .inl (gI g, 60, .inl (nowF v)))]) rfl ?_
            refine j_iload_n (pc := 40) hX dX9_covers_40 1 rfl ?_
            refine j_icmp_gt (tgt := 48) (pc := 41) hX dX9_covers_41 (by decide) (fun c41_12 => ?_) (fun c41_12 => ?_)
            · skip
              refine j_iconst (v := 0) (pc := 48) hX dX9_covers_48 (by decide) ?_
              refine j_iadd (pc := 49) hX dX9_covers_49 ?_
              refine j_top (b := nI ((cnM v x0 i) + 0)) (nI_add (cnM v x0 i) 0) ?_
              refine j_istore_n (lv2 := [(0, .ref m), (1, .int x0), (2, .int (nI ((cnM v x0 i) + 0))), (3, .int (nI i))]) (pc := 50) hX dX9_covers_50 [1, 2, 0, 3] (by decide) rfl ?_
              refine j_iinc (v := nI (i + 1)) (lv2 := [(0, .ref m), (1, .int x0), (2, .int (nI ((cnM v x0 i) + 0))), (3, .int (nI (i + 1)))]) (pc := 51) hX dX9_covers_51 3 rfl (nI_add i 1) [1, 2, 3, 0] (by decide) rfl ?_
              refine j_goto (tgt := 18) (pc := 54) hX dX9_covers_54 (by decide) ?_
              exact j_eq (lv2 := [(0, .ref m), (1, .int x0), (2, .int (nI (cnM v x0 (i + 1)))), (3, .int (nI (i + 1)))]) (ws2 := [(m, .inr (9, [.ref a0, .ref a1, .int (nI un), .ref a3, .ref a4, .ref a5, .int (nI sg), .ref a7, .ref a8, .int (nI mn), .ref a10, .ref a11, .int (nI ti), .int dr, .int (nI rd), .int op])), (a0, .inl (gI g, 60, .inl (nowF v)))]) (by first | rfl | (simp only [cnM, c8_3, c8_3b, c23_6, c23_6n, c23_6m, c32_9, c32_9b, c41_12, reduceIte, eq_self]; first | done | rfl)) (by first | rfl | (simp only [cnM, c8_3, c8_3b, c23_6, c23_6n, c23_6m, c32_9, c32_9b, c41_12, reduceIte, eq_self]; first | done | rfl)) (ih18 _ (by omega) (i + 1) (by omega) rfl)
            · skip
              refine j_iconst (v := 1) (pc := 44) hX dX9_covers_44 (by decide) ?_
              refine j_goto (tgt := 49) (pc := 45) hX dX9_covers_45 (by decide) ?_
              refine j_iadd (pc := 49) hX dX9_covers_49 ?_
              refine j_top (b := nI ((cnM v x0 i) + 1)) (nI_add (cnM v x0 i) 1) ?_
              refine j_istore_n (lv2 := [(0, .ref m), (1, .int x0), (2, .int (nI ((cnM v x0 i) + 1))), (3, .int (nI i))]) (pc := 50) hX dX9_covers_50 [1, 2, 0, 3] (by decide) rfl ?_
              refine j_iinc (v := nI (i + 1)) (lv2 := [(0, .ref m), (1, .int x0), (2, .int (nI ((cnM v x0 i) + 1))), (3, .int (nI (i + 1)))]) (pc := 51) hX dX9_covers_51 3 rfl (nI_add i 1) [1, 2, 3, 0] (by decide) rfl ?_
              refine j_goto (tgt := 18) (pc := 54) hX dX9_covers_54 (by decide) ?_
              exact j_eq (lv2 := [(0, .ref m), (1, .int x0), (2, .int (nI (cnM v x0 (i + 1)))), (3, .int (nI (i + 1)))]) (ws2 := [(m, .inr (9, [.ref a0, .ref a1, .int (nI un), .ref a3, .ref a4, .ref a5, .int (nI sg), .ref a7, .ref a8, .int (nI mn), .ref a10, .ref a11, .int (nI ti), .int dr, .int (nI rd), .int op])), (a0, .inl (gI g, 60, .inl (nowF v)))]) (by first | rfl | (simp only [cnM, c8_3, c8_3b, c23_6, c23_6n, c23_6m, c32_9, c32_9b, c41_12, reduceIte, eq_self]; first | done | rfl)) (by first | rfl | (simp only [cnM, c8_3, c8_3b, c23_6, c23_6n, c23_6m, c32_9, c32_9b, c41_12, reduceIte, eq_self]; first | done | rfl)) (ih18 _ (by omega) (i + 1) (by omega) rfl)
    exact j_eq (lv2 := [(0, .ref m), (1, .int x0), (2, .int (nI (cnM v x0 0))), (3, .int (nI 0))]) (ws2 := [(m, .inr (9, [.ref a0, .ref a1, .int (nI un), .ref a3, .ref a4, .ref a5, .int (nI sg), .ref a7, .ref a8, .int (nI mn), .ref a10, .ref a11, .int (nI ti), .int dr, .int (nI rd), .int op])), (a0, .inl (gI g, 60, .inl (nowF v)))]) (rfl) (rfl) (L18 _ 0 (by omega) rfl)
  · skip
    have c8_3b : (S_in x0 0 7000) = false := jb_0.mp c8_3
    refine j_bipush (v := (-2)) (pc := 11) hX dX9_covers_11 (by decide) ?_
    exact j_iret (pc := 13) hX hQ dX9_covers_13 rfl ⟨(by unfold rCovM; (first | rw [if_pos c8_3b] | rw [if_neg c8_3b] | rw [if_neg (nbt c8_3b)]); try rfl), (by first | rfl | first | (simp only [jb_t, jb_f, c8_3, c8_3b, reduceIte, eq_self, decide_true, decide_false, Bool.and_true, Bool.true_and, Bool.and_false, Bool.false_and, Bool.and_self, not_true_eq_false, not_false_eq_true, and_true, true_and, and_false, false_and, and_self]; done) | (simp [jb_t, jb_f, c8_3, c8_3b]; done))⟩

set_option maxHeartbeats 4000000 in
set_option maxRecDepth 100000 in
theorem c_X9_canLeave (g : jG) (m : Nat) (a0 : Nat) (a1 : Nat) (a3 : Nat) (a4 : Nat) (a5 : Nat) (a7 : Nat) (a8 : Nat) (a10 : Nat) (a11 : Nat) (un : Nat) (sg : Nat) (mn : Nat) (ti : Nat) (dr : Int32) (rd : Nat) (op : Int32) (v : StT) (k : Int32) (hv : v.2.1 ≤ 14) : jMI g yX9_canLeave cX9_canLeave 4 .boolean 3 66 [.ref m, .int k] [(m, .inr (9, [.ref a0, .ref a1, .int (nI un), .ref a3, .ref a4, .ref a5, .int (nI sg), .ref a7, .ref a8, .int (nI mn), .ref a10, .ref a11, .int (nI ti), .int dr, .int (nI rd), .int op])), (a0, .inl (gI g, 60, .inl (nowF v)))] (fun rz wz => rz = jb (clM v k v.2.1) ∧ wz = [(m, .inr (9, [.ref a0, .ref a1, .int (nI un), .ref a3, .ref a4, .ref a5, .int (nI sg), .ref a7, .ref a8, .int (nI mn), .ref a10, .ref a11, .int (nI ti), .int dr, .int (nI rd), .int op])), (a0, .inl (gI g, 60, .inl (nowF v)))]) := by
  refine jMI.intro (by decide +kernel) (Nat.le_of_ble_eq_true rfl) (fun x hX hQ => ?_)
  refine j_lv (lv2 := [(0, .ref m), (1, .int k)]) rfl ?_
  refine j_iconst (v := 0) (pc := 0) hX dX9_canLeave_0 (by decide) ?_
  refine j_istore_n (lv2 := [(0, .ref m), (1, .int k), (2, .int 0)]) (pc := 1) hX dX9_canLeave_1 [1, 2, 0] (by decide) rfl ?_
  refine j_iconst (v := 0) (pc := 2) hX dX9_canLeave_2 (by decide) ?_
  refine j_istore_n (lv2 := [(0, .ref m), (1, .int k), (2, .int 0), (3, .int 0)]) (pc := 3) hX dX9_canLeave_3 [1, 2, 3, 0] (by decide) rfl ?_
  have L4 : ∀ (d : Nat) (i : Nat), i ≤ v.2.1 → v.2.1 - i = d → J g x 4 0 0 4 [(0, .ref m), (1, .int k), (2, .int (jb (clM v k i))), (3, .int (nI i))] [] [(m, .inr (9, [.ref a0, .ref a1, .int (nI un), .ref a3, .ref a4, .ref a5, .int (nI sg), .ref a7, .ref a8, .int (nI mn), .ref a10, .ref a11, .int (nI ti), .int dr, .int (nI rd), .int op])), (a0, .inl (gI g, 60, .inl (nowF v)))] := by
    intro d
    induction d using Nat.strongRecOn with
    | _ d ih4 =>
      intro i hi hd4
      refine j_iload_n (pc := 4) hX dX9_canLeave_4 3 rfl ?_
      refine j_aload_n (pc := 5) hX dX9_canLeave_5 0 rfl ?_
      refine j_get (ci := 9) (pc := 6) hX inG9 rfl 0 (by decide) mw624 0 rfl rfl dX9_canLeave_6 ?_
      refine j_iconst (v := 0) (pc := 9) hX dX9_canLeave_9 (by decide) ?_
      refine j_iald (pc := 10) hX 1 rfl 0 rfl (by omega) (by omega) dX9_canLeave_10 ?_
      refine j_top (b := nI v.2.1) (rfl) ?_
      refine j_icmp_ge (tgt := 52) (pc := 11) hX dX9_canLeave_11 (by decide) (fun c11_1 => ?_) (fun c11_1 => ?_)
      · skip
        have c11_1n : v.2.1 ≤ i := (nI_leI (a := v.2.1) (b := i) (by omega) (by omega)).mp c11_1
        have c11_1m : ¬ i < v.2.1 := by omega
        refine j_iload_n (pc := 52) hX dX9_canLeave_52 2 rfl ?_
        exact j_zret (pc := 53) hX hQ dX9_canLeave_53 (by first | rfl | exact jb_nar _) rfl ⟨(by rw [show i = v.2.1 by omega]), (by first | rfl | first | (simp only [jb_t, jb_f, c11_1, c11_1n, c11_1m, reduceIte, eq_self, decide_true, decide_false, Bool.and_true, Bool.true_and, Bool.and_false, Bool.false_and, Bool.and_self, not_true_eq_false, not_false_eq_true, and_true, true_and, and_false, false_and, and_self]; done) | (simp [jb_t, jb_f, c11_1, c11_1n, c11_1m]; done))⟩
      · skip
        have c11_1n : ¬ v.2.1 ≤ i := fun h9 => c11_1 ((nI_leI (a := v.2.1) (b := i) (by omega) (by omega)).mpr h9)
        have c11_1m : i < v.2.1 := by omega
        refine j_iload_n (pc := 14) hX dX9_canLeave_14 2 rfl ?_
        refine j_if_ne (tgt := 52) (pc := 15) hX dX9_canLeave_15 (by decide) (fun c15_2 => ?_) (fun c15_2 => ?_)
        · skip
          have c15_2b : (clM v k i) = true := jb_1.mp c15_2
          refine j_iload_n (pc := 52) hX dX9_canLeave_52 2 rfl ?_
          exact j_zret (pc := 53) hX hQ dX9_canLeave_53 (by first | rfl | exact jb_nar _) rfl ⟨(by rw [c15_2b, clM_up v k c15_2b v.2.1 hi]), (by first | rfl | first | (simp only [jb_t, jb_f, c11_1, c11_1n, c11_1m, c15_2, c15_2b, reduceIte, eq_self, decide_true, decide_false, Bool.and_true, Bool.true_and, Bool.and_false, Bool.false_and, Bool.and_self, not_true_eq_false, not_false_eq_true, and_true, true_and, and_false, false_and, and_self]; done) | (simp [jb_t, jb_f, c11_1, c11_1n, c11_1m, c15_2, c15_2b]; done))⟩
        · skip
          have c15_2b : (clM v k i) = false := jb_0.mp c15_2
          refine j_iload_n (pc := 18) hX dX9_canLeave_18 1 rfl ?_
          refine j_iload_n (pc := 19) hX dX9_canLeave_19 3 rfl ?_
          refine j_callSI (n := 2) (As := [.int k, .int (nI i)]) (rest := []) (pc := 20) hX (c_X9_has g k i (by first | assumption | omega)) (CS.of mw738 mw739 mw52 mw740 ⟨by decide +kernel, by decide +kernel, by decide +kernel⟩) (Nat.le_of_ble_eq_true rfl) (Nat.le_of_ble_eq_true rfl) (Nat.le_of_ble_eq_true rfl) (Nat.le_of_ble_eq_true rfl) [] (by decide +kernel) rfl rfl rfl (Nat.le_of_ble_eq_true rfl) dX9_canLeave_20 (fun r3 wz hq4 => ?_)
          obtain ⟨rfl, rfl⟩ := hq4
          refine j_ws (ws2 := [(m, .inr (9, [.ref a0, .ref a1, .int (nI un), .ref a3, .ref a4, .ref a5, .int (nI sg), .ref a7, .ref a8, .int (nI mn), .ref a10, .ref a11, .int (nI ti), .int dr, .int (nI rd), .int op])), (a0, .inl (gI g, 60, .inl (nowF v)))]) rfl ?_
          refine j_if_eq (tgt := 44) (pc := 23) hX dX9_canLeave_23 (by decide) (fun c23_5 => ?_) (fun c23_5 => ?_)
          · skip
            have c23_5b : (bt k i) = false := jb_0.mp c23_5
            refine j_iconst (v := 0) (pc := 44) hX dX9_canLeave_44 (by decide) ?_
            refine j_istore_n (lv2 := [(0, .ref m), (1, .int k), (2, .int 0), (3, .int (nI i))]) (pc := 45) hX dX9_canLeave_45 [1, 2, 0, 3] (by decide) rfl ?_
            refine j_iinc (v := nI (i + 1)) (lv2 := [(0, .ref m), (1, .int k), (2, .int 0), (3, .int (nI (i + 1)))]) (pc := 46) hX dX9_canLeave_46 3 rfl (nI_add i 1) [1, 2, 3, 0] (by decide) rfl ?_
            refine j_goto (tgt := 4) (pc := 49) hX dX9_canLeave_49 (by decide) ?_
            exact j_eq (lv2 := [(0, .ref m), (1, .int k), (2, .int (jb (clM v k (i + 1)))), (3, .int (nI (i + 1)))]) (ws2 := [(m, .inr (9, [.ref a0, .ref a1, .int (nI un), .ref a3, .ref a4, .ref a5, .int (nI sg), .ref a7, .ref a8, .int (nI mn), .ref a10, .ref a11, .int (nI ti), .int dr, .int (nI rd), .int op])), (a0, .inl (gI g, 60, .inl (nowF v)))]) (by first | rfl | (rw [clM, c15_2b, c23_5b]; rfl)) (by first | rfl | (rw [clM, c15_2b, c23_5b]; rfl)) (ih4 _ (by omega) (i + 1) (by omega) rfl)
          · skip
            have c23_5b : (bt k i) = true := jb_1.mp c23_5
            refine j_aload_n (pc := 26) hX dX9_canLeave_26 0 rfl ?_
            refine j_iload_n (pc := 27) hX dX9_canLeave_27 1 rfl ?_
            refine j_iconst (v := 1) (pc := 28) hX dX9_canLeave_28 (by decide) ?_
            refine j_iload_n (pc := 29) hX dX9_canLeave_29 3 rfl ?_
            refine j_ishl (pc := 30) hX dX9_canLeave_30 ?_
            refine j_top (b := bI i) rfl ?_
            refine j_iconst (v := (-1)) (pc := 31) hX dX9_canLeave_31 (by decide) ?_
            refine j_ixor (pc := 32) hX dX9_canLeave_32 ?_
            refine j_iand (pc := 33) hX dX9_canLeave_33 ?_
            refine j_callVI (n := 1) (As := [.int (k &&& ((bI i) ^^^ (-1)))]) (rest := []) (pc := 34) hX (c_X9_isCover g m a0 a1 a3 a4 a5 a7 a8 a10 a11 un sg mn ti dr rd op v (k &&& ((bI i) ^^^ (-1))) (by first | assumption | omega)) (CV.of mw744 mw745 mw31 mw52 mw746 ⟨rfl, by decide +kernel, by decide +kernel, by decide +kernel⟩ (T := TX9) (N := 16) rfl) (Nat.le_of_ble_eq_true rfl) (Nat.le_of_ble_eq_true rfl) (Nat.le_of_ble_eq_true rfl) (Nat.le_of_ble_eq_true rfl) 0 rfl [0, 1] (by decide +kernel) rfl rfl rfl (Nat.le_of_ble_eq_true rfl) dX9_canLeave_34 (fun r6 wz hq7 => ?_)
            obtain ⟨rfl, rfl⟩ := hq7
            refine j_ws (ws2 := [(m, .inr (9, [.ref a0, .ref a1, .int (nI un), .ref a3, .ref a4, .ref a5, .int (nI sg), .ref a7, .ref a8, .int (nI mn), .ref a10, .ref a11, .int (nI ti), .int dr, .int (nI rd), .int op])), (a0, .inl (gI g, 60, .inl (nowF v)))]) rfl ?_
            refine j_if_eq (tgt := 44) (pc := 37) hX dX9_canLeave_37 (by decide) (fun c37_8 => ?_) (fun c37_8 => ?_)
            · skip
              have c37_8b : (S_cov v.2.2.1 v.2.2.2.2 v.1 v.2.1 (k &&& ((bI i) ^^^ (-1)))) = false := jb_0.mp c37_8
              refine j_iconst (v := 0) (pc := 44) hX dX9_canLeave_44 (by decide) ?_
              refine j_istore_n (lv2 := [(0, .ref m), (1, .int k), (2, .int 0), (3, .int (nI i))]) (pc := 45) hX dX9_canLeave_45 [1, 2, 0, 3] (by decide) rfl ?_
              refine j_iinc (v := nI (i + 1)) (lv2 := [(0, .ref m), (1, .int k), (2, .int 0), (3, .int (nI (i + 1)))]) (pc := 46) hX dX9_canLeave_46 3 rfl (nI_add i 1) [1, 2, 3, 0] (by decide) rfl ?_
              refine j_goto (tgt := 4) (pc := 49) hX dX9_canLeave_49 (by decide) ?_
              exact j_eq (lv2 := [(0, .ref m), (1, .int k), (2, .int (jb (clM v k (i + 1)))), (3, .int (nI (i + 1)))]) (ws2 := [(m, .inr (9, [.ref a0, .ref a1, .int (nI un), .ref a3, .ref a4, .ref a5, .int (nI sg), .ref a7, .ref a8, .int (nI mn), .ref a10, .ref a11, .int (nI ti), .int dr, .int (nI rd), .int op])), (a0, .inl (gI g, 60, .inl (nowF v)))]) (by first | rfl | (rw [clM, c15_2b, c23_5b, c37_8b]; rfl)) (by first | rfl | (rw [clM, c15_2b, c23_5b, c37_8b]; rfl)) (ih4 _ (by omega) (i + 1) (by omega) rfl)
            · skip
              have c37_8b : (S_cov v.2.2.1 v.2.2.2.2 v.1 v.2.1 (k &&& ((bI i) ^^^ (-1)))) = true := jb_1.mp c37_8
              refine j_iconst (v := 1) (pc := 40) hX dX9_canLeave_40 (by decide) ?_
              refine j_goto (tgt := 45) (pc := 41) hX dX9_canLeave_41 (by decide) ?_
              refine j_istore_n (lv2 := [(0, .ref m), (1, .int k), (2, .int 1), (3, .int (nI i))]) (pc := 45) hX dX9_canLeave_45 [1, 2, 0, 3] (by decide) rfl ?_
              refine j_iinc (v := nI (i + 1)) (lv2 := [(0, .ref m), (1, .int k), (2, .int 1), (3, .int (nI (i + 1)))]) (pc := 46) hX dX9_canLeave_46 3 rfl (nI_add i 1) [1, 2, 3, 0] (by decide) rfl ?_
              refine j_goto (tgt := 4) (pc := 49) hX dX9_canLeave_49 (by decide) ?_
              exact j_eq (lv2 := [(0, .ref m), (1, .int k), (2, .int (jb (clM v k (i + 1)))), (3, .int (nI (i + 1)))]) (ws2 := [(m, .inr (9, [.ref a0, .ref a1, .int (nI un), .ref a3, .ref a4, .ref a5, .int (nI sg), .ref a7, .ref a8, .int (nI mn), .ref a10, .ref a11, .int (nI ti), .int dr, .int (nI rd), .int op])), (a0, .inl (gI g, 60, .inl (nowF v)))]) (by first | rfl | (rw [clM, c15_2b, c23_5b, c37_8b]; rfl)) (by first | rfl | (rw [clM, c15_2b, c23_5b, c37_8b]; rfl)) (ih4 _ (by omega) (i + 1) (by omega) rfl)
  exact j_eq (lv2 := [(0, .ref m), (1, .int k), (2, .int (jb (clM v k 0))), (3, .int (nI 0))]) (ws2 := [(m, .inr (9, [.ref a0, .ref a1, .int (nI un), .ref a3, .ref a4, .ref a5, .int (nI sg), .ref a7, .ref a8, .int (nI mn), .ref a10, .ref a11, .int (nI ti), .int dr, .int (nI rd), .int op])), (a0, .inl (gI g, 60, .inl (nowF v)))]) (rfl) (rfl) (L4 _ 0 (by omega) rfl)

set_option maxHeartbeats 4000000 in
set_option maxRecDepth 100000 in
theorem c_X9_tightCovers (g : jG) (m : Nat) (a0 : Nat) (a1 : Nat) (a3 : Nat) (a4 : Nat) (a5 : Nat) (a7 : Nat) (a8 : Nat) (a10 : Nat) (a11 : Nat) (un : Nat) (sg : Nat) (mn : Nat) (ti : Nat) (dr : Int32) (rd : Nat) (op : Int32) (v : StT) (hv : v.2.1 ≤ 14) : jMI g yX9_tightCovers cX9_tightCovers 3 .int 4 89 [.ref m] [(m, .inr (9, [.ref a0, .ref a1, .int (nI un), .ref a3, .ref a4, .ref a5, .int (nI sg), .ref a7, .ref a8, .int (nI mn), .ref a10, .ref a11, .int (nI ti), .int dr, .int (nI rd), .int op])), (a0, .inl (gI g, 60, .inl (nowF v)))] (fun rz wz => rz = nI (tcM v (wM v)) ∧ wz = [(m, .inr (9, [.ref a0, .ref a1, .int (nI un), .ref a3, .ref a4, .ref a5, .int (nI sg), .ref a7, .ref a8, .int (nI mn), .ref a10, .ref a11, .int (nI ti), .int dr, .int (nI rd), .int op])), (a0, .inl (gI g, 60, .inl (nowF v)))]) := by
  refine jMI.intro (by decide +kernel) (Nat.le_of_ble_eq_true rfl) (fun x hX hQ => ?_)
  refine j_lv (lv2 := [(0, .ref m)]) rfl ?_
  have hw5 := wM_le hv
  refine j_iconst (v := 0) (pc := 0) hX dX9_tightCovers_0 (by decide) ?_
  refine j_istore_n (lv2 := [(0, .ref m), (1, .int 0)]) (pc := 1) hX dX9_tightCovers_1 [1, 0] (by decide) rfl ?_
  refine j_iconst (v := 0) (pc := 2) hX dX9_tightCovers_2 (by decide) ?_
  refine j_istore_n (lv2 := [(0, .ref m), (1, .int 0), (2, .int 0)]) (pc := 3) hX dX9_tightCovers_3 [1, 2, 0] (by decide) rfl ?_
  have L4 : ∀ (d : Nat) (i : Nat), i ≤ wM v → wM v - i = d → J g x 3 0 0 4 [(0, .ref m), (1, .int (nI (tcM v i))), (2, .int (nI i))] [] [(m, .inr (9, [.ref a0, .ref a1, .int (nI un), .ref a3, .ref a4, .ref a5, .int (nI sg), .ref a7, .ref a8, .int (nI mn), .ref a10, .ref a11, .int (nI ti), .int dr, .int (nI rd), .int op])), (a0, .inl (gI g, 60, .inl (nowF v)))] := by
    intro d
    induction d using Nat.strongRecOn with
    | _ d ih4 =>
      intro i hi hd4
      refine j_iload_n (pc := 4) hX dX9_tightCovers_4 2 rfl ?_
      refine j_aload_n (pc := 5) hX dX9_tightCovers_5 0 rfl ?_
      refine j_callVI (n := 0) (As := []) (rest := [.int (nI i)]) (pc := 6) hX (c_X9_masks g m a0 a1 a3 a4 a5 a7 a8 a10 a11 un sg mn ti dr rd op v (by first | assumption | omega)) (CV.of mw729 mw730 mw27 mw52 mw731 ⟨rfl, by decide +kernel, by decide +kernel, by decide +kernel⟩ (T := TX9) (N := 16) rfl) (Nat.le_of_ble_eq_true rfl) (Nat.le_of_ble_eq_true rfl) (Nat.le_of_ble_eq_true rfl) (Nat.le_of_ble_eq_true rfl) 0 rfl [0, 1] (by decide +kernel) rfl rfl rfl (Nat.le_of_ble_eq_true rfl) dX9_tightCovers_6 (fun r1 wz hq2 => ?_)
      obtain ⟨rfl, rfl⟩ := hq2
      refine j_ws (ws2 := [(m, .inr (9, [.ref a0, .ref a1, .int (nI un), .ref a3, .ref a4, .ref a5, .int (nI sg), .ref a7, .ref a8, .int (nI mn), .ref a10, .ref a11, .int (nI ti), .int dr, .int (nI rd), .int op])), (a0, .inl (gI g, 60, .inl (nowF v)))]) rfl ?_
      refine j_icmp_ge (tgt := 42) (pc := 9) hX dX9_tightCovers_9 (by decide) (fun c9_3 => ?_) (fun c9_3 => ?_)
      · skip
        have c9_3n : (wM v) ≤ i := (nI_leI (a := (wM v)) (b := i) (by omega) (by omega)).mp c9_3
        have c9_3m : ¬ i < (wM v) := by omega
        refine j_iload_n (pc := 42) hX dX9_tightCovers_42 1 rfl ?_
        exact j_iret (pc := 43) hX hQ dX9_tightCovers_43 rfl ⟨(by rw [show i = wM v by omega]), (by first | rfl | first | (simp only [jb_t, jb_f, c9_3, c9_3n, c9_3m, reduceIte, eq_self, decide_true, decide_false, Bool.and_true, Bool.true_and, Bool.and_false, Bool.false_and, Bool.and_self, not_true_eq_false, not_false_eq_true, and_true, true_and, and_false, false_and, and_self]; done) | (simp [jb_t, jb_f, c9_3, c9_3n, c9_3m]; done))⟩
      · skip
        have c9_3n : ¬ (wM v) ≤ i := fun h9 => c9_3 ((nI_leI (a := (wM v)) (b := i) (by omega) (by omega)).mpr h9)
        have c9_3m : i < (wM v) := by omega
        refine j_iload_n (pc := 12) hX dX9_tightCovers_12 1 rfl ?_
        refine j_aload_n (pc := 13) hX dX9_tightCovers_13 0 rfl ?_
        refine j_iload_n (pc := 14) hX dX9_tightCovers_14 2 rfl ?_
        refine j_callVI (n := 1) (As := [.int (nI i)]) (rest := [.int (nI (tcM v i))]) (pc := 15) hX (c_X9_isCover g m a0 a1 a3 a4 a5 a7 a8 a10 a11 un sg mn ti dr rd op v (nI i) (by first | assumption | omega)) (CV.of mw744 mw745 mw31 mw52 mw746 ⟨rfl, by decide +kernel, by decide +kernel, by decide +kernel⟩ (T := TX9) (N := 16) rfl) (Nat.le_of_ble_eq_true rfl) (Nat.le_of_ble_eq_true rfl) (Nat.le_of_ble_eq_true rfl) (Nat.le_of_ble_eq_true rfl) 0 rfl [0, 1] (by decide +kernel) rfl rfl rfl (Nat.le_of_ble_eq_true rfl) dX9_tightCovers_15 (fun r4 wz hq5 => ?_)
        obtain ⟨rfl, rfl⟩ := hq5
        refine j_ws (ws2 := [(m, .inr (9, [.ref a0, .ref a1, .int (nI un), .ref a3, .ref a4, .ref a5, .int (nI sg), .ref a7, .ref a8, .int (nI mn), .ref a10, .ref a11, .int (nI ti), .int dr, .int (nI rd), .int op])), (a0, .inl (gI g, 60, .inl (nowF v)))]) rfl ?_
        refine j_if_eq (tgt := 33) (pc := 18) hX dX9_tightCovers_18 (by decide) (fun c18_6 => ?_) (fun c18_6 => ?_)
        · skip
          have c18_6b : (S_cov v.2.2.1 v.2.2.2.2 v.1 v.2.1 (nI i)) = false := jb_0.mp c18_6
          refine j_iconst (v := 0) (pc := 33) hX dX9_tightCovers_33 (by decide) ?_
          refine j_iadd (pc := 34) hX dX9_tightCovers_34 ?_
          refine j_top (b := nI ((tcM v i) + 0)) (nI_add (tcM v i) 0) ?_
          refine j_istore_n (lv2 := [(0, .ref m), (1, .int (nI ((tcM v i) + 0))), (2, .int (nI i))]) (pc := 35) hX dX9_tightCovers_35 [1, 0, 2] (by decide) rfl ?_
          refine j_iinc (v := nI (i + 1)) (lv2 := [(0, .ref m), (1, .int (nI ((tcM v i) + 0))), (2, .int (nI (i + 1)))]) (pc := 36) hX dX9_tightCovers_36 2 rfl (nI_add i 1) [1, 2, 0] (by decide) rfl ?_
          refine j_goto (tgt := 4) (pc := 39) hX dX9_tightCovers_39 (by decide) ?_
          exact j_eq (lv2 := [(0, .ref m), (1, .int (nI (tcM v (i + 1)))), (2, .int (nI (i + 1)))]) (ws2 := [(m, .inr (9, [.ref a0, .ref a1, .int (nI un), .ref a3, .ref a4, .ref a5, .int (nI sg), .ref a7, .ref a8, .int (nI mn), .ref a10, .ref a11, .int (nI ti), .int dr, .int (nI rd), .int op])), (a0, .inl (gI g, 60, .inl (nowF v)))]) (by first | rfl | (simp only [tcM, c9_3, c9_3n, c9_3m, c18_6, c18_6b, reduceIte, eq_self]; first | done | rfl)) (by first | rfl | (simp only [tcM, c9_3, c9_3n, c9_3m, c18_6, c18_6b, reduceIte, eq_self]; first | done | rfl)) (ih4 _ (by omega) (i + 1) (by omega) rfl)
        · skip
          have c18_6b : (S_cov v.2.2.1 v.2.2.2.2 v.1 v.2.1 (nI i)) = true := jb_1.mp c18_6
          refine j_aload_n (pc := 21) hX dX9_tightCovers_21 0 rfl ?_
          refine j_iload_n (pc := 22) hX dX9_tightCovers_22 2 rfl ?_
          refine j_callVI (n := 1) (As := [.int (nI i)]) (rest := [.int (nI (tcM v i))]) (pc := 23) hX (c_X9_canLeave g m a0 a1 a3 a4 a5 a7 a8 a10 a11 un sg mn ti dr rd op v (nI i) (by first | assumption | omega)) (CV.of mw805 mw806 mw41 mw52 mw807 ⟨rfl, by decide +kernel, by decide +kernel, by decide +kernel⟩ (T := TX9) (N := 16) rfl) (Nat.le_of_ble_eq_true rfl) (Nat.le_of_ble_eq_true rfl) (Nat.le_of_ble_eq_true rfl) (Nat.le_of_ble_eq_true rfl) 0 rfl [0, 1] (by decide +kernel) rfl rfl rfl (Nat.le_of_ble_eq_true rfl) dX9_tightCovers_23 (fun r7 wz hq8 => ?_)
          obtain ⟨rfl, rfl⟩ := hq8
          refine j_ws (ws2 := [(m, .inr (9, [.ref a0, .ref a1, .int (nI un), .ref a3, .ref a4, .ref a5, .int (nI sg), .ref a7, .ref a8, .int (nI mn), .ref a10, .ref a11, .int (nI ti), .int dr, .int (nI rd), .int op])), (a0, .inl (gI g, 60, .inl (nowF v)))]) rfl ?_
          refine j_if_ne (tgt := 33) (pc := 26) hX dX9_tightCovers_26 (by decide) (fun c26_9 => ?_) (fun c26_9 => ?_)
          · skip
            have c26_9b : (clM v (nI i) v.2.1) = true := jb_1.mp c26_9
            refine j_iconst (v := 0) (pc := 33) hX dX9_tightCovers_33 (by decide) ?_
            refine j_iadd (pc := 34) hX dX9_tightCovers_34 ?_
            refine j_top (b := nI ((tcM v i) + 0)) (nI_add (tcM v i) 0) ?_
            refine j_istore_n (lv2 := [(0, .ref m), (1, .int (nI ((tcM v i) + 0))), (2, .int (nI i))]) (pc := 35) hX dX9_tightCovers_35 [1, 0, 2] (by decide) rfl ?_
            refine j_iinc (v := nI (i + 1)) (lv2 := [(0, .ref m), (1, .int (nI ((tcM v i) + 0))), (2, .int (nI (i + 1)))]) (pc := 36) hX dX9_tightCovers_36 2 rfl (nI_add i 1) [1, 2, 0] (by decide) rfl ?_
            refine j_goto (tgt := 4) (pc := 39) hX dX9_tightCovers_39 (by decide) ?_
            exact j_eq (lv2 := [(0, .ref m), (1, .int (nI (tcM v (i + 1)))), (2, .int (nI (i + 1)))]) (ws2 := [(m, .inr (9, [.ref a0, .ref a1, .int (nI un), .ref a3, .ref a4, .ref a5, .int (nI sg), .ref a7, .ref a8, .int (nI mn), .ref a10, .ref a11, .int (nI ti), .int dr, .int (nI rd), .int op])), (a0, .inl (gI g, 60, .inl (nowF v)))]) (by first | rfl | (simp only [tcM, c9_3, c9_3n, c9_3m, c18_6, c18_6b, c26_9, c26_9b, reduceIte, eq_self]; first | done | rfl)) (by first | rfl | (simp only [tcM, c9_3, c9_3n, c9_3m, c18_6, c18_6b, c26_9, c26_9b, reduceIte, eq_self]; first | done | rfl)) (ih4 _ (by omega) (i + 1) (by omega) rfl)
          · skip
            have c26_9b : (clM v (nI i) v.2.1) = false := jb_0.mp c26_9
            refine j_iconst (v := 1) (pc := 29) hX dX9_tightCovers_29 (by decide) ?_
            refine j_goto (tgt := 34) (pc := 30) hX dX9_tightCovers_30 (by decide) ?_
            refine j_iadd (pc := 34) hX dX9_tightCovers_34 ?_
            refine j_top (b := nI ((tcM v i) + 1)) (nI_add (tcM v i) 1) ?_
            refine j_istore_n (lv2 := [(0, .ref m), (1, .int (nI ((tcM v i) + 1))), (2, .int (nI i))]) (pc := 35) hX dX9_tightCovers_35 [1, 0, 2] (by decide) rfl ?_
            refine j_iinc (v := nI (i + 1)) (lv2 := [(0, .ref m), (1, .int (nI ((tcM v i) + 1))), (2, .int (nI (i + 1)))]) (pc := 36) hX dX9_tightCovers_36 2 rfl (nI_add i 1) [1, 2, 0] (by decide) rfl ?_
            refine j_goto (tgt := 4) (pc := 39) hX dX9_tightCovers_39 (by decide) ?_
            exact j_eq (lv2 := [(0, .ref m), (1, .int (nI (tcM v (i + 1)))), (2, .int (nI (i + 1)))]) (ws2 := [(m, .inr (9, [.ref a0, .ref a1, .int (nI un), .ref a3, .ref a4, .ref a5, .int (nI sg), .ref a7, .ref a8, .int (nI mn), .ref a10, .ref a11, .int (nI ti), .int dr, .int (nI rd), .int op])), (a0, .inl (gI g, 60, .inl (nowF v)))]) (by first | rfl | (simp only [tcM, c9_3, c9_3n, c9_3m, c18_6, c18_6b, c26_9, c26_9b, reduceIte, eq_self]; first | done | rfl)) (by first | rfl | (simp only [tcM, c9_3, c9_3n, c9_3m, c18_6, c18_6b, c26_9, c26_9b, reduceIte, eq_self]; first | done | rfl)) (ih4 _ (by omega) (i + 1) (by omega) rfl)
  exact j_eq (lv2 := [(0, .ref m), (1, .int (nI (tcM v 0))), (2, .int (nI 0))]) (ws2 := [(m, .inr (9, [.ref a0, .ref a1, .int (nI un), .ref a3, .ref a4, .ref a5, .int (nI sg), .ref a7, .ref a8, .int (nI mn), .ref a10, .ref a11, .int (nI ti), .int dr, .int (nI rd), .int op])), (a0, .inl (gI g, 60, .inl (nowF v)))]) (rfl) (rfl) (L4 _ 0 (by omega) rfl)

set_option maxHeartbeats 4000000 in
set_option maxRecDepth 100000 in
theorem c_X9_staysUpTo (g : jG) (m : Nat) (a0 : Nat) (a1 : Nat) (a3 : Nat) (a4 : Nat) (a5 : Nat) (a7 : Nat) (a8 : Nat) (a10 : Nat) (a11 : Nat) (un : Nat) (sg : Nat) (mn : Nat) (ti : Nat) (dr : Int32) (rd : Nat) (op : Int32) (v : StT) (k : Int32) (hv : v.2.1 ≤ 14) : jMI g yX9_staysUpTo cX9_staysUpTo 5 .int 4 91 [.ref m, .int k] [(m, .inr (9, [.ref a0, .ref a1, .int (nI un), .ref a3, .ref a4, .ref a5, .int (nI sg), .ref a7, .ref a8, .int (nI mn), .ref a10, .ref a11, .int (nI ti), .int dr, .int (nI rd), .int op])), (a0, .inl (gI g, 60, .inl (nowF v)))] (fun rz wz => rz = rStaysM v k ∧ wz = [(m, .inr (9, [.ref a0, .ref a1, .int (nI un), .ref a3, .ref a4, .ref a5, .int (nI sg), .ref a7, .ref a8, .int (nI mn), .ref a10, .ref a11, .int (nI ti), .int dr, .int (nI rd), .int op])), (a0, .inl (gI g, 60, .inl (nowF v)))]) := by
  refine jMI.intro (by decide +kernel) (Nat.le_of_ble_eq_true rfl) (fun x hX hQ => ?_)
  refine j_lv (lv2 := [(0, .ref m), (1, .int k)]) rfl ?_
  refine j_aload_n (pc := 0) hX dX9_staysUpTo_0 0 rfl ?_
  refine j_iload_n (pc := 1) hX dX9_staysUpTo_1 1 rfl ?_
  refine j_callVI (n := 1) (As := [.int k]) (rest := []) (pc := 2) hX (c_X9_isSet g m a0 a1 a3 a4 a5 a7 a8 a10 a11 un sg mn ti dr rd op v k (by first | assumption | omega)) (CV.of mw678 mw679 mw21 mw52 mw680 ⟨rfl, by decide +kernel, by decide +kernel, by decide +kernel⟩ (T := TX9) (N := 16) rfl) (Nat.le_of_ble_eq_true rfl) (Nat.le_of_ble_eq_true rfl) (Nat.le_of_ble_eq_true rfl) (Nat.le_of_ble_eq_true rfl) 0 rfl [0, 1] (by decide +kernel) rfl rfl rfl (Nat.le_of_ble_eq_true rfl) dX9_staysUpTo_2 (fun r1 wz hq2 => ?_)
  obtain ⟨rfl, rfl⟩ := hq2
  refine j_ws (ws2 := [(m, .inr (9, [.ref a0, .ref a1, .int (nI un), .ref a3, .ref a4, .ref a5, .int (nI sg), .ref a7, .ref a8, .int (nI mn), .ref a10, .ref a11, .int (nI ti), .int dr, .int (nI rd), .int op])), (a0, .inl (gI g, 60, .inl (nowF v)))]) rfl ?_
  refine j_if_ne (tgt := 10) (pc := 5) hX dX9_staysUpTo_5 (by decide) (fun c5_3 => ?_) (fun c5_3 => ?_)
  · skip
    have c5_3b : (S_is v.2.1 k) = true := jb_1.mp c5_3
    obtain ⟨j, hj, rfl⟩ := S_is_t hv c5_3b
    refine j_aload_n (pc := 10) hX dX9_staysUpTo_10 0 rfl ?_
    refine j_iconst (v := 1) (pc := 11) hX dX9_staysUpTo_11 (by decide) ?_
    refine j_iload_n (pc := 12) hX dX9_staysUpTo_12 1 rfl ?_
    refine j_ishl (pc := 13) hX dX9_staysUpTo_13 ?_
    refine j_top (b := bI j) rfl ?_
    refine j_iconst (v := 0) (pc := 14) hX dX9_staysUpTo_14 (by decide) ?_
    refine j_callVI (n := 2) (As := [.int (bI j), .int 0]) (rest := []) (pc := 15) hX (c_X9_leastWith g m a0 a1 a3 a4 a5 a7 a8 a10 a11 un sg mn ti dr rd op v (bI j) 0 (by first | assumption | omega)) (CV.of mw794 mw795 mw40 mw52 mw796 ⟨rfl, by decide +kernel, by decide +kernel, by decide +kernel⟩ (T := TX9) (N := 16) rfl) (Nat.le_of_ble_eq_true rfl) (Nat.le_of_ble_eq_true rfl) (Nat.le_of_ble_eq_true rfl) (Nat.le_of_ble_eq_true rfl) 0 rfl [0, 1] (by decide +kernel) rfl rfl rfl (Nat.le_of_ble_eq_true rfl) dX9_staysUpTo_15 (fun r4 wz hq5 => ?_)
    obtain ⟨rfl, rfl⟩ := hq5
    refine j_ws (ws2 := [(m, .inr (9, [.ref a0, .ref a1, .int (nI un), .ref a3, .ref a4, .ref a5, .int (nI sg), .ref a7, .ref a8, .int (nI mn), .ref a10, .ref a11, .int (nI ti), .int dr, .int (nI rd), .int op])), (a0, .inl (gI g, 60, .inl (nowF v)))]) rfl ?_
    refine j_istore_n (lv2 := [(0, .ref m), (1, .int (nI j)), (2, .int (oN (lW v (bI j) 0 (wM v)).1))]) (pc := 18) hX dX9_staysUpTo_18 [1, 2, 0] (by decide) rfl ?_
    refine j_iload_n (pc := 19) hX dX9_staysUpTo_19 2 rfl ?_
    refine j_if_ge (tgt := 26) (pc := 20) hX dX9_staysUpTo_20 (by decide) (fun c20_6 => ?_) (fun c20_6 => ?_)
    · skip
      refine j_aload_n (pc := 26) hX dX9_staysUpTo_26 0 rfl ?_
      refine j_iconst (v := 0) (pc := 27) hX dX9_staysUpTo_27 (by decide) ?_
      refine j_iconst (v := 1) (pc := 28) hX dX9_staysUpTo_28 (by decide) ?_
      refine j_iload_n (pc := 29) hX dX9_staysUpTo_29 1 rfl ?_
      refine j_ishl (pc := 30) hX dX9_staysUpTo_30 ?_
      refine j_top (b := bI j) rfl ?_
      refine j_callVI (n := 2) (As := [.int 0, .int (bI j)]) (rest := []) (pc := 31) hX (c_X9_leastWith g m a0 a1 a3 a4 a5 a7 a8 a10 a11 un sg mn ti dr rd op v 0 (bI j) (by first | assumption | omega)) (CV.of mw794 mw795 mw40 mw52 mw796 ⟨rfl, by decide +kernel, by decide +kernel, by decide +kernel⟩ (T := TX9) (N := 16) rfl) (Nat.le_of_ble_eq_true rfl) (Nat.le_of_ble_eq_true rfl) (Nat.le_of_ble_eq_true rfl) (Nat.le_of_ble_eq_true rfl) 0 rfl [0, 1] (by decide +kernel) rfl rfl rfl (Nat.le_of_ble_eq_true rfl) dX9_staysUpTo_31 (fun r7 wz hq8 => ?_)
      obtain ⟨rfl, rfl⟩ := hq8
      refine j_ws (ws2 := [(m, .inr (9, [.ref a0, .ref a1, .int (nI un), .ref a3, .ref a4, .ref a5, .int (nI sg), .ref a7, .ref a8, .int (nI mn), .ref a10, .ref a11, .int (nI ti), .int dr, .int (nI rd), .int op])), (a0, .inl (gI g, 60, .inl (nowF v)))]) rfl ?_
      refine j_istore_n (lv2 := [(0, .ref m), (1, .int (nI j)), (2, .int (oN (lW v (bI j) 0 (wM v)).1)), (3, .int (oN (lW v 0 (bI j) (wM v)).1))]) (pc := 34) hX dX9_staysUpTo_34 [1, 2, 3, 0] (by decide) rfl ?_
      refine j_iload_n (pc := 35) hX dX9_staysUpTo_35 3 rfl ?_
      refine j_if_ge (tgt := 45) (pc := 36) hX dX9_staysUpTo_36 (by decide) (fun c36_9 => ?_) (fun c36_9 => ?_)
      · skip
        refine j_aload_n (pc := 45) hX dX9_staysUpTo_45 0 rfl ?_
        refine j_iload_n (pc := 46) hX dX9_staysUpTo_46 3 rfl ?_
        refine j_callVI (n := 1) (As := [.int (oN (lW v 0 (bI j) (wM v)).1)]) (rest := []) (pc := 47) hX (c_X9_pricesOf g m a0 a1 a3 a4 a5 a7 a8 a10 a11 un sg mn ti dr rd op v (oN (lW v 0 (bI j) (wM v)).1) (by first | assumption | omega)) (CV.of mw783 mw784 mw39 mw52 mw785 ⟨rfl, by decide +kernel, by decide +kernel, by decide +kernel⟩ (T := TX9) (N := 16) rfl) (Nat.le_of_ble_eq_true rfl) (Nat.le_of_ble_eq_true rfl) (Nat.le_of_ble_eq_true rfl) (Nat.le_of_ble_eq_true rfl) 0 rfl [0, 1] (by decide +kernel) rfl rfl rfl (Nat.le_of_ble_eq_true rfl) dX9_staysUpTo_47 (fun r10 wz hq11 => ?_)
        obtain ⟨rfl, rfl⟩ := hq11
        refine j_ws (ws2 := [(m, .inr (9, [.ref a0, .ref a1, .int (nI un), .ref a3, .ref a4, .ref a5, .int (nI sg), .ref a7, .ref a8, .int (nI mn), .ref a10, .ref a11, .int (nI ti), .int dr, .int (nI rd), .int op])), (a0, .inl (gI g, 60, .inl (nowF v)))]) rfl ?_
        refine j_aload_n (pc := 50) hX dX9_staysUpTo_50 0 rfl ?_
        refine j_iload_n (pc := 51) hX dX9_staysUpTo_51 2 rfl ?_
        refine j_callVI (n := 1) (As := [.int (oN (lW v (bI j) 0 (wM v)).1)]) (rest := [.int (S_sum v.2.2.2.1 (oN (lW v 0 (bI j) (wM v)).1) v.2.1)]) (pc := 52) hX (c_X9_pricesOf g m a0 a1 a3 a4 a5 a7 a8 a10 a11 un sg mn ti dr rd op v (oN (lW v (bI j) 0 (wM v)).1) (by first | assumption | omega)) (CV.of mw783 mw784 mw39 mw52 mw785 ⟨rfl, by decide +kernel, by decide +kernel, by decide +kernel⟩ (T := TX9) (N := 16) rfl) (Nat.le_of_ble_eq_true rfl) (Nat.le_of_ble_eq_true rfl) (Nat.le_of_ble_eq_true rfl) (Nat.le_of_ble_eq_true rfl) 0 rfl [0, 1] (by decide +kernel) rfl rfl rfl (Nat.le_of_ble_eq_true rfl) dX9_staysUpTo_52 (fun r12 wz hq13 => ?_)
        obtain ⟨rfl, rfl⟩ := hq13
        refine j_ws (ws2 := [(m, .inr (9, [.ref a0, .ref a1, .int (nI un), .ref a3, .ref a4, .ref a5, .int (nI sg), .ref a7, .ref a8, .int (nI mn), .ref a10, .ref a11, .int (nI ti), .int dr, .int (nI rd), .int op])), (a0, .inl (gI g, 60, .inl (nowF v)))]) rfl ?_
        refine j_isub (pc := 55) hX dX9_staysUpTo_55 ?_
        refine j_aload_n (pc := 56) hX dX9_staysUpTo_56 0 rfl ?_
        refine j_iload_n (pc := 57) hX dX9_staysUpTo_57 1 rfl ?_
        refine j_callVI (n := 1) (As := [.int (nI j)]) (rest := [.int ((S_sum v.2.2.2.1 (oN (lW v 0 (bI j) (wM v)).1) v.2.1) - (S_sum v.2.2.2.1 (oN (lW v (bI j) 0 (wM v)).1) v.2.1))]) (pc := 58) hX (c_X9_priceOf g m a0 a1 a3 a4 a5 a7 a8 a10 a11 un sg mn ti dr rd op v j (by first | assumption | omega)) (CV.of mw681 mw682 mw22 mw52 mw683 ⟨rfl, by decide +kernel, by decide +kernel, by decide +kernel⟩ (T := TX9) (N := 16) rfl) (Nat.le_of_ble_eq_true rfl) (Nat.le_of_ble_eq_true rfl) (Nat.le_of_ble_eq_true rfl) (Nat.le_of_ble_eq_true rfl) 0 rfl [0, 1] (by decide +kernel) rfl rfl rfl (Nat.le_of_ble_eq_true rfl) dX9_staysUpTo_58 (fun r14 wz hq15 => ?_)
        obtain ⟨rfl, rfl⟩ := hq15
        refine j_ws (ws2 := [(m, .inr (9, [.ref a0, .ref a1, .int (nI un), .ref a3, .ref a4, .ref a5, .int (nI sg), .ref a7, .ref a8, .int (nI mn), .ref a10, .ref a11, .int (nI ti), .int dr, .int (nI rd), .int op])), (a0, .inl (gI g, 60, .inl (nowF v)))]) rfl ?_
        refine j_iadd (pc := 61) hX dX9_staysUpTo_61 ?_
        refine j_istore (lv2 := [(0, .ref m), (1, .int (nI j)), (2, .int (oN (lW v (bI j) 0 (wM v)).1)), (3, .int (oN (lW v 0 (bI j) (wM v)).1)), (4, .int (((S_sum v.2.2.2.1 (oN (lW v 0 (bI j) (wM v)).1) v.2.1) - (S_sum v.2.2.2.1 (oN (lW v (bI j) 0 (wM v)).1) v.2.1)) + (v.2.2.2.1 j)))]) (pc := 62) hX dX9_staysUpTo_62 [1, 2, 3, 4, 0] (by decide) rfl ?_
        refine j_iload (pc := 64) hX dX9_staysUpTo_64 4 rfl ?_
        refine j_iconst (v := 1) (pc := 66) hX dX9_staysUpTo_66 (by decide) ?_
        refine j_icmp_ge (tgt := 75) (pc := 67) hX dX9_staysUpTo_67 (by decide) (fun c67_16 => ?_) (fun c67_16 => ?_)
        · skip
          refine j_iload (pc := 75) hX dX9_staysUpTo_75 4 rfl ?_
          refine j_sipush (v := 500) (pc := 77) hX dX9_staysUpTo_77 (by decide) ?_
          refine j_icmp_le (tgt := 89) (pc := 80) hX dX9_staysUpTo_80 (by decide) (fun c80_17 => ?_) (fun c80_17 => ?_)
          · skip
            refine j_iload (pc := 89) hX dX9_staysUpTo_89 4 rfl ?_
            exact j_iret (pc := 91) hX hQ dX9_staysUpTo_91 rfl ⟨(by unfold rStaysM; rw [kN_nI (show j < 100 by omega)]; (first | rw [if_pos c5_3b] | rw [if_neg c5_3b] | rw [if_neg (nbt c5_3b)]); (first | rw [if_pos c20_6] | rw [if_neg c20_6] | rw [if_neg (nbt c20_6)]); rw [show msW v j = ((S_sum v.2.2.2.1 (oN (lW v 0 (bI j) (wM v)).1) v.2.1) - (S_sum v.2.2.2.1 (oN (lW v (bI j) 0 (wM v)).1) v.2.1)) + (v.2.2.2.1 j) from by unfold msW; (first | rw [if_pos c36_9] | rw [if_neg c36_9] | rw [if_neg (nbt c36_9)])]; (first | rw [if_pos c67_16] | rw [if_neg c67_16] | rw [if_neg (nbt c67_16)]); (first | rw [if_pos c80_17] | rw [if_neg c80_17] | rw [if_neg (nbt c80_17)]); try rfl), (by first | rfl | first | (simp only [jb_t, jb_f, c5_3, c5_3b, hj, c20_6, c36_9, c67_16, c80_17, reduceIte, eq_self, decide_true, decide_false, Bool.and_true, Bool.true_and, Bool.and_false, Bool.false_and, Bool.and_self, not_true_eq_false, not_false_eq_true, and_true, true_and, and_false, false_and, and_self]; done) | (simp [jb_t, jb_f, c5_3, c5_3b, hj, c20_6, c36_9, c67_16, c80_17]; done))⟩
          · skip
            refine j_sipush (v := 500) (pc := 83) hX dX9_staysUpTo_83 (by decide) ?_
            refine j_goto (tgt := 91) (pc := 86) hX dX9_staysUpTo_86 (by decide) ?_
            exact j_iret (pc := 91) hX hQ dX9_staysUpTo_91 rfl ⟨(by unfold rStaysM; rw [kN_nI (show j < 100 by omega)]; (first | rw [if_pos c5_3b] | rw [if_neg c5_3b] | rw [if_neg (nbt c5_3b)]); (first | rw [if_pos c20_6] | rw [if_neg c20_6] | rw [if_neg (nbt c20_6)]); rw [show msW v j = ((S_sum v.2.2.2.1 (oN (lW v 0 (bI j) (wM v)).1) v.2.1) - (S_sum v.2.2.2.1 (oN (lW v (bI j) 0 (wM v)).1) v.2.1)) + (v.2.2.2.1 j) from by unfold msW; (first | rw [if_pos c36_9] | rw [if_neg c36_9] | rw [if_neg (nbt c36_9)])]; (first | rw [if_pos c67_16] | rw [if_neg c67_16] | rw [if_neg (nbt c67_16)]); (first | rw [if_pos c80_17] | rw [if_neg c80_17] | rw [if_neg (nbt c80_17)]); try rfl), (by first | rfl | first | (simp only [jb_t, jb_f, c5_3, c5_3b, hj, c20_6, c36_9, c67_16, c80_17, reduceIte, eq_self, decide_true, decide_false, Bool.and_true, Bool.true_and, Bool.and_false, Bool.false_and, Bool.and_self, not_true_eq_false, not_false_eq_true, and_true, true_and, and_false, false_and, and_self]; done) | (simp [jb_t, jb_f, c5_3, c5_3b, hj, c20_6, c36_9, c67_16, c80_17]; done))⟩
        · skip
          refine j_bipush (v := (-6)) (pc := 70) hX dX9_staysUpTo_70 (by decide) ?_
          refine j_goto (tgt := 91) (pc := 72) hX dX9_staysUpTo_72 (by decide) ?_
          exact j_iret (pc := 91) hX hQ dX9_staysUpTo_91 rfl ⟨(by unfold rStaysM; rw [kN_nI (show j < 100 by omega)]; (first | rw [if_pos c5_3b] | rw [if_neg c5_3b] | rw [if_neg (nbt c5_3b)]); (first | rw [if_pos c20_6] | rw [if_neg c20_6] | rw [if_neg (nbt c20_6)]); rw [show msW v j = ((S_sum v.2.2.2.1 (oN (lW v 0 (bI j) (wM v)).1) v.2.1) - (S_sum v.2.2.2.1 (oN (lW v (bI j) 0 (wM v)).1) v.2.1)) + (v.2.2.2.1 j) from by unfold msW; (first | rw [if_pos c36_9] | rw [if_neg c36_9] | rw [if_neg (nbt c36_9)])]; (first | rw [if_pos c67_16] | rw [if_neg c67_16] | rw [if_neg (nbt c67_16)]); try rfl), (by first | rfl | first | (simp only [jb_t, jb_f, c5_3, c5_3b, hj, c20_6, c36_9, c67_16, reduceIte, eq_self, decide_true, decide_false, Bool.and_true, Bool.true_and, Bool.and_false, Bool.false_and, Bool.and_self, not_true_eq_false, not_false_eq_true, and_true, true_and, and_false, false_and, and_self]; done) | (simp [jb_t, jb_f, c5_3, c5_3b, hj, c20_6, c36_9, c67_16]; done))⟩
      · skip
        refine j_sipush (v := 500) (pc := 39) hX dX9_staysUpTo_39 (by decide) ?_
        refine j_goto (tgt := 62) (pc := 42) hX dX9_staysUpTo_42 (by decide) ?_
        refine j_istore (lv2 := [(0, .ref m), (1, .int (nI j)), (2, .int (oN (lW v (bI j) 0 (wM v)).1)), (3, .int (oN (lW v 0 (bI j) (wM v)).1)), (4, .int 500)]) (pc := 62) hX dX9_staysUpTo_62 [1, 2, 3, 4, 0] (by decide) rfl ?_
        refine j_iload (pc := 64) hX dX9_staysUpTo_64 4 rfl ?_
        refine j_iconst (v := 1) (pc := 66) hX dX9_staysUpTo_66 (by decide) ?_
        refine j_icmp_ge (tgt := 75) (pc := 67) hX dX9_staysUpTo_67 (by decide) (fun _ => ?_) (fun h9 => absurd h9 (by decide))
        refine j_iload (pc := 75) hX dX9_staysUpTo_75 4 rfl ?_
        refine j_sipush (v := 500) (pc := 77) hX dX9_staysUpTo_77 (by decide) ?_
        refine j_icmp_le (tgt := 89) (pc := 80) hX dX9_staysUpTo_80 (by decide) (fun _ => ?_) (fun h9 => absurd h9 (by decide))
        refine j_iload (pc := 89) hX dX9_staysUpTo_89 4 rfl ?_
        exact j_iret (pc := 91) hX hQ dX9_staysUpTo_91 rfl ⟨(by unfold rStaysM; rw [kN_nI (show j < 100 by omega)]; (first | rw [if_pos c5_3b] | rw [if_neg c5_3b] | rw [if_neg (nbt c5_3b)]); (first | rw [if_pos c20_6] | rw [if_neg c20_6] | rw [if_neg (nbt c20_6)]); rw [show msW v j = 500 from by unfold msW; (first | rw [if_pos c36_9] | rw [if_neg c36_9] | rw [if_neg (nbt c36_9)])]; decide; try rfl), (by first | rfl | first | (simp only [jb_t, jb_f, c5_3, c5_3b, hj, c20_6, c36_9, reduceIte, eq_self, decide_true, decide_false, Bool.and_true, Bool.true_and, Bool.and_false, Bool.false_and, Bool.and_self, not_true_eq_false, not_false_eq_true, and_true, true_and, and_false, false_and, and_self]; done) | (simp [jb_t, jb_f, c5_3, c5_3b, hj, c20_6, c36_9]; done))⟩
    · skip
      refine j_bipush (v := (-6)) (pc := 23) hX dX9_staysUpTo_23 (by decide) ?_
      exact j_iret (pc := 25) hX hQ dX9_staysUpTo_25 rfl ⟨(by unfold rStaysM; rw [kN_nI (show j < 100 by omega)]; (first | rw [if_pos c5_3b] | rw [if_neg c5_3b] | rw [if_neg (nbt c5_3b)]); (first | rw [if_pos c20_6] | rw [if_neg c20_6] | rw [if_neg (nbt c20_6)]); try rfl), (by first | rfl | first | (simp only [jb_t, jb_f, c5_3, c5_3b, hj, c20_6, reduceIte, eq_self, decide_true, decide_false, Bool.and_true, Bool.true_and, Bool.and_false, Bool.false_and, Bool.and_self, not_true_eq_false, not_false_eq_true, and_true, true_and, and_false, false_and, and_self]; done) | (simp [jb_t, jb_f, c5_3, c5_3b, hj, c20_6]; done))⟩
  · skip
    have c5_3b : (S_is v.2.1 k) = false := jb_0.mp c5_3
    refine j_iconst (v := (-1)) (pc := 8) hX dX9_staysUpTo_8 (by decide) ?_
    exact j_iret (pc := 9) hX hQ dX9_staysUpTo_9 rfl ⟨(by unfold rStaysM; (first | rw [if_pos c5_3b] | rw [if_neg c5_3b] | rw [if_neg (nbt c5_3b)])), (by first | rfl | first | (simp only [jb_t, jb_f, c5_3, c5_3b, reduceIte, eq_self, decide_true, decide_false, Bool.and_true, Bool.true_and, Bool.and_false, Bool.false_and, Bool.and_self, not_true_eq_false, not_false_eq_true, and_true, true_and, and_false, false_and, and_self]; done) | (simp [jb_t, jb_f, c5_3, c5_3b]; done))⟩

set_option maxHeartbeats 4000000 in
set_option maxRecDepth 100000 in
theorem c_X9_dearest (g : jG) (m : Nat) (a0 : Nat) (a1 : Nat) (a3 : Nat) (a4 : Nat) (a5 : Nat) (a7 : Nat) (a8 : Nat) (a10 : Nat) (a11 : Nat) (un : Nat) (sg : Nat) (mn : Nat) (ti : Nat) (dr : Int32) (rd : Nat) (op : Int32) (v : StT) (w0 : Int32) (hv : v.2.1 ≤ 14) : jMI g yX9_dearest cX9_dearest 7 .int 4 91 [.ref m, .int w0] [(m, .inr (9, [.ref a0, .ref a1, .int (nI un), .ref a3, .ref a4, .ref a5, .int (nI sg), .ref a7, .ref a8, .int (nI mn), .ref a10, .ref a11, .int (nI ti), .int dr, .int (nI rd), .int op])), (a0, .inl (gI g, 60, .inl (nowF v)))] (fun rz wz => rz = rDearM v w0 ∧ wz = [(m, .inr (9, [.ref a0, .ref a1, .int (nI un), .ref a3, .ref a4, .ref a5, .int (nI sg), .ref a7, .ref a8, .int (nI mn), .ref a10, .ref a11, .int (nI ti), .int dr, .int (nI rd), .int op])), (a0, .inl (gI g, 60, .inl (nowF v)))]) := by
  refine jMI.intro (by decide +kernel) (Nat.le_of_ble_eq_true rfl) (fun x hX hQ => ?_)
  refine j_lv (lv2 := [(0, .ref m), (1, .int w0)]) rfl ?_
  refine j_iload_n (pc := 0) hX dX9_dearest_0 1 rfl ?_
  refine j_iconst (v := 0) (pc := 1) hX dX9_dearest_1 (by decide) ?_
  refine j_iconst (v := 1) (pc := 2) hX dX9_dearest_2 (by decide) ?_
  refine j_callSI (n := 3) (As := [.int w0, .int 0, .int 1]) (rest := []) (pc := 3) hX (c_X9_in g w0 0 1 ) (CS.of mw661 mw662 mw52 mw663 ⟨by decide +kernel, by decide +kernel, by decide +kernel⟩) (Nat.le_of_ble_eq_true rfl) (Nat.le_of_ble_eq_true rfl) (Nat.le_of_ble_eq_true rfl) (Nat.le_of_ble_eq_true rfl) [] (by decide +kernel) rfl rfl rfl (Nat.le_of_ble_eq_true rfl) dX9_dearest_3 (fun r1 wz hq2 => ?_)
  obtain ⟨rfl, rfl⟩ := hq2
  refine j_ws (ws2 := [(m, .inr (9, [.ref a0, .ref a1, .int (nI un), .ref a3, .ref a4, .ref a5, .int (nI sg), .ref a7, .ref a8, .int (nI mn), .ref a10, .ref a11, .int (nI ti), .int dr, .int (nI rd), .int op])), (a0, .inl (gI g, 60, .inl (nowF v)))]) rfl ?_
  refine j_if_ne (tgt := 12) (pc := 6) hX dX9_dearest_6 (by decide) (fun c6_3 => ?_) (fun c6_3 => ?_)
  · skip
    have c6_3b : (S_in w0 0 1) = true := jb_1.mp c6_3
    refine j_aload_n (pc := 12) hX dX9_dearest_12 0 rfl ?_
    refine j_callVI (n := 0) (As := []) (rest := []) (pc := 13) hX (c_X9_hasCover g m a0 a1 a3 a4 a5 a7 a8 a10 a11 un sg mn ti dr rd op v (by first | assumption | omega)) (CV.of mw741 mw742 mw30 mw52 mw743 ⟨rfl, by decide +kernel, by decide +kernel, by decide +kernel⟩ (T := TX9) (N := 16) rfl) (Nat.le_of_ble_eq_true rfl) (Nat.le_of_ble_eq_true rfl) (Nat.le_of_ble_eq_true rfl) (Nat.le_of_ble_eq_true rfl) 0 rfl [0, 1] (by decide +kernel) rfl rfl rfl (Nat.le_of_ble_eq_true rfl) dX9_dearest_13 (fun r4 wz hq5 => ?_)
    obtain ⟨rfl, rfl⟩ := hq5
    refine j_ws (ws2 := [(m, .inr (9, [.ref a0, .ref a1, .int (nI un), .ref a3, .ref a4, .ref a5, .int (nI sg), .ref a7, .ref a8, .int (nI mn), .ref a10, .ref a11, .int (nI ti), .int dr, .int (nI rd), .int op])), (a0, .inl (gI g, 60, .inl (nowF v)))]) rfl ?_
    refine j_if_ne (tgt := 22) (pc := 16) hX dX9_dearest_16 (by decide) (fun c16_6 => ?_) (fun c16_6 => ?_)
    · skip
      have c16_6b : (hasM v) = true := jb_1.mp c16_6
      refine j_aload_n (pc := 22) hX dX9_dearest_22 0 rfl ?_
      refine j_get (ci := 9) (pc := 23) hX inG9 rfl 0 (by decide) mw624 0 rfl rfl dX9_dearest_23 ?_
      refine j_iconst (v := 1) (pc := 26) hX dX9_dearest_26 (by decide) ?_
      refine j_iald (pc := 27) hX 1 rfl 1 rfl (by omega) (by omega) dX9_dearest_27 ?_
      refine j_top (b := v.1) (rfl) ?_
      refine j_istore_n (lv2 := [(0, .ref m), (1, .int w0), (2, .int v.1)]) (pc := 28) hX dX9_dearest_28 [1, 2, 0] (by decide) rfl ?_
      refine j_bipush (v := (-6)) (pc := 29) hX dX9_dearest_29 (by decide) ?_
      refine j_istore_n (lv2 := [(0, .ref m), (1, .int w0), (2, .int v.1), (3, .int (-6))]) (pc := 31) hX dX9_dearest_31 [1, 2, 3, 0] (by decide) rfl ?_
      refine j_iconst (v := 0) (pc := 32) hX dX9_dearest_32 (by decide) ?_
      refine j_istore (lv2 := [(0, .ref m), (1, .int w0), (2, .int v.1), (3, .int (-6)), (4, .int 0)]) (pc := 33) hX dX9_dearest_33 [1, 2, 3, 4, 0] (by decide) rfl ?_
      refine j_iconst (v := 0) (pc := 35) hX dX9_dearest_35 (by decide) ?_
      refine j_istore (lv2 := [(0, .ref m), (1, .int w0), (2, .int v.1), (3, .int (-6)), (4, .int 0), (5, .int 0)]) (pc := 36) hX dX9_dearest_36 [1, 2, 3, 4, 5, 0] (by decide) rfl ?_
      have L38 : ∀ (d : Nat) (t : Nat) (nd1 : Int32), t ≤ 18 → 18 - t = d → J g x 7 0 0 38 [(0, .ref m), (1, .int w0), (2, .int v.1), (3, .int (oN (dM v t).1)), (4, .int ((dM v t).2)), (5, .int (nI t))] [] [(m, .inr (9, [.ref a0, .ref a1, .int (nI un), .ref a3, .ref a4, .ref a5, .int (nI sg), .ref a7, .ref a8, .int (nI mn), .ref a10, .ref a11, .int (nI ti), .int dr, .int (nI rd), .int op])), (a0, .inl (gI g, 60, .inl (nowF (nd1, v.2))))] := by
        intro d
        induction d using Nat.strongRecOn with
        | _ d ih38 =>
          intro t nd1 ht hd38
          refine j_iload (pc := 38) hX dX9_dearest_38 5 rfl ?_
          refine j_bipush (v := 18) (pc := 40) hX dX9_dearest_40 (by decide) ?_
          refine j_icmp_ge (tgt := 104) (pc := 42) hX dX9_dearest_42 (by decide) (fun c42_7 => ?_) (fun c42_7 => ?_)
          · skip
            have c42_7n : 18 ≤ t := (nI_leI (a := 18) (b := t) (by omega) (by omega)).mp c42_7
            have c42_7m : ¬ t < 18 := by omega
            have ht8 : t = 18 := by omega
            refine j_aload_n (pc := 104) hX dX9_dearest_104 0 rfl ?_
            refine j_get (ci := 9) (pc := 105) hX inG9 rfl 0 (by decide) mw624 0 rfl rfl dX9_dearest_105 ?_
            refine j_iconst (v := 1) (pc := 108) hX dX9_dearest_108 (by decide) ?_
            refine j_iload_n (pc := 109) hX dX9_dearest_109 2 rfl ?_
            refine j_iast (pc := 110) hX 1 rfl 1 rfl (by omega) (by omega) dX9_dearest_110 ?_
            refine j_ws (ws2 := [(m, .inr (9, [.ref a0, .ref a1, .int (nI un), .ref a3, .ref a4, .ref a5, .int (nI sg), .ref a7, .ref a8, .int (nI mn), .ref a10, .ref a11, .int (nI ti), .int dr, .int (nI rd), .int op])), (a0, .inl (gI g, 60, .inl (nowF (v.1, v.2.1, v.2.2.1, v.2.2.2.1, v.2.2.2.2))))]) (by first | (rw [nowF_u1]; done) | (rw [nowF_u1]; rfl)) ?_
            refine j_iload_n (pc := 111) hX dX9_dearest_111 3 rfl ?_
            refine j_if_lt (tgt := 119) (pc := 112) hX dX9_dearest_112 (by decide) (fun c112_8 => ?_) (fun c112_8 => ?_)
            · skip
              refine j_iload_n (pc := 119) hX dX9_dearest_119 3 rfl ?_
              refine j_goto (tgt := 125) (pc := 120) hX dX9_dearest_120 (by decide) ?_
              exact j_iret (pc := 125) hX hQ dX9_dearest_125 rfl ⟨(by subst ht8; unfold rDearM; (first | rw [if_pos c6_3b] | rw [if_neg c6_3b] | rw [if_neg (nbt c6_3b)]); (first | rw [if_pos c16_6b] | rw [if_neg c16_6b] | rw [if_neg (nbt c16_6b)]); (first | rw [if_pos c112_8] | rw [if_neg c112_8] | rw [if_neg (nbt c112_8)]); try rfl), (by first | rfl | first | (simp only [jb_t, jb_f, c6_3, c6_3b, c16_6, c16_6b, c42_7, c42_7n, c42_7m, c112_8, reduceIte, eq_self, decide_true, decide_false, Bool.and_true, Bool.true_and, Bool.and_false, Bool.false_and, Bool.and_self, not_true_eq_false, not_false_eq_true, and_true, true_and, and_false, false_and, and_self]; done) | (simp [jb_t, jb_f, c6_3, c6_3b, c16_6, c16_6b, c42_7, c42_7n, c42_7m, c112_8]; done))⟩
            · skip
              refine j_iload_n (pc := 115) hX dX9_dearest_115 1 rfl ?_
              refine j_if_ne (tgt := 123) (pc := 116) hX dX9_dearest_116 (by decide) (fun c116_9 => ?_) (fun c116_9 => ?_)
              · skip
                refine j_iload (pc := 123) hX dX9_dearest_123 4 rfl ?_
                exact j_iret (pc := 125) hX hQ dX9_dearest_125 rfl ⟨(by subst ht8; unfold rDearM; (first | rw [if_pos c6_3b] | rw [if_neg c6_3b] | rw [if_neg (nbt c6_3b)]); (first | rw [if_pos c16_6b] | rw [if_neg c16_6b] | rw [if_neg (nbt c16_6b)]); (first | rw [if_pos c112_8] | rw [if_neg c112_8] | rw [if_neg (nbt c112_8)]); (first | rw [if_pos c116_9] | rw [if_neg c116_9] | rw [if_neg (nbt c116_9)]); try rfl), (by first | rfl | first | (simp only [jb_t, jb_f, c6_3, c6_3b, c16_6, c16_6b, c42_7, c42_7n, c42_7m, c112_8, c116_9, reduceIte, eq_self, decide_true, decide_false, Bool.and_true, Bool.true_and, Bool.and_false, Bool.false_and, Bool.and_self, not_true_eq_false, not_false_eq_true, and_true, true_and, and_false, false_and, and_self]; done) | (simp [jb_t, jb_f, c6_3, c6_3b, c16_6, c16_6b, c42_7, c42_7n, c42_7m, c112_8, c116_9]; done))⟩
              · skip
                refine j_iload_n (pc := 119) hX dX9_dearest_119 3 rfl ?_
                refine j_goto (tgt := 125) (pc := 120) hX dX9_dearest_120 (by decide) ?_
                exact j_iret (pc := 125) hX hQ dX9_dearest_125 rfl ⟨(by subst ht8; unfold rDearM; (first | rw [if_pos c6_3b] | rw [if_neg c6_3b] | rw [if_neg (nbt c6_3b)]); (first | rw [if_pos c16_6b] | rw [if_neg c16_6b] | rw [if_neg (nbt c16_6b)]); (first | rw [if_pos c112_8] | rw [if_neg c112_8] | rw [if_neg (nbt c112_8)]); (first | rw [if_pos c116_9] | rw [if_neg c116_9] | rw [if_neg (nbt c116_9)]); try rfl), (by first | rfl | first | (simp only [jb_t, jb_f, c6_3, c6_3b, c16_6, c16_6b, c42_7, c42_7n, c42_7m, c112_8, c116_9, reduceIte, eq_self, decide_true, decide_false, Bool.and_true, Bool.true_and, Bool.and_false, Bool.false_and, Bool.and_self, not_true_eq_false, not_false_eq_true, and_true, true_and, and_false, false_and, and_self]; done) | (simp [jb_t, jb_f, c6_3, c6_3b, c16_6, c16_6b, c42_7, c42_7n, c42_7m, c112_8, c116_9]; done))⟩
          · skip
            have c42_7n : ¬ 18 ≤ t := fun h9 => c42_7 ((nI_leI (a := 18) (b := t) (by omega) (by omega)).mpr h9)
            have c42_7m : t < 18 := by omega
            refine j_iload_n (pc := 45) hX dX9_dearest_45 2 rfl ?_
            refine j_iload (pc := 46) hX dX9_dearest_46 5 rfl ?_
            refine j_callSI (n := 2) (As := [.int v.1, .int (nI t)]) (rest := []) (pc := 48) hX (c_X9_has g v.1 t (by first | assumption | omega)) (CS.of mw738 mw739 mw52 mw740 ⟨by decide +kernel, by decide +kernel, by decide +kernel⟩) (Nat.le_of_ble_eq_true rfl) (Nat.le_of_ble_eq_true rfl) (Nat.le_of_ble_eq_true rfl) (Nat.le_of_ble_eq_true rfl) [] (by decide +kernel) rfl rfl rfl (Nat.le_of_ble_eq_true rfl) dX9_dearest_48 (fun r10 wz hq11 => ?_)
            obtain ⟨rfl, rfl⟩ := hq11
            refine j_ws (ws2 := [(m, .inr (9, [.ref a0, .ref a1, .int (nI un), .ref a3, .ref a4, .ref a5, .int (nI sg), .ref a7, .ref a8, .int (nI mn), .ref a10, .ref a11, .int (nI ti), .int dr, .int (nI rd), .int op])), (a0, .inl (gI g, 60, .inl (nowF (nd1, v.2))))]) rfl ?_
            refine j_if_eq (tgt := 98) (pc := 51) hX dX9_dearest_51 (by decide) (fun c51_12 => ?_) (fun c51_12 => ?_)
            · skip
              have c51_12b : (bt v.1 t) = false := jb_0.mp c51_12
              refine j_iinc (v := nI (t + 1)) (lv2 := [(0, .ref m), (1, .int w0), (2, .int v.1), (3, .int (oN (dM v t).1)), (4, .int ((dM v t).2)), (5, .int (nI (t + 1)))]) (pc := 98) hX dX9_dearest_98 5 rfl (nI_add t 1) [1, 2, 3, 4, 5, 0] (by decide) rfl ?_
              refine j_goto (tgt := 38) (pc := 101) hX dX9_dearest_101 (by decide) ?_
              exact j_eq (lv2 := [(0, .ref m), (1, .int w0), (2, .int v.1), (3, .int (oN (dM v (t + 1)).1)), (4, .int ((dM v (t + 1)).2)), (5, .int (nI (t + 1)))]) (ws2 := [(m, .inr (9, [.ref a0, .ref a1, .int (nI un), .ref a3, .ref a4, .ref a5, .int (nI sg), .ref a7, .ref a8, .int (nI mn), .ref a10, .ref a11, .int (nI ti), .int dr, .int (nI rd), .int op])), (a0, .inl (gI g, 60, .inl (nowF (nd1, v.2))))]) (by first | rfl | (simp only [dM, c6_3, c6_3b, c16_6, c16_6b, c42_7, c42_7n, c42_7m, c51_12, c51_12b, reduceIte, eq_self]; first | done | rfl)) (by first | rfl | (simp only [dM, c6_3, c6_3b, c16_6, c16_6b, c42_7, c42_7n, c42_7m, c51_12, c51_12b, reduceIte, eq_self]; first | done | rfl)) (ih38 _ (by omega) (t + 1) nd1 (by omega) rfl)
            · skip
              have c51_12b : (bt v.1 t) = true := jb_1.mp c51_12
              refine j_aload_n (pc := 54) hX dX9_dearest_54 0 rfl ?_
              refine j_get (ci := 9) (pc := 55) hX inG9 rfl 0 (by decide) mw624 0 rfl rfl dX9_dearest_55 ?_
              refine j_iconst (v := 1) (pc := 58) hX dX9_dearest_58 (by decide) ?_
              refine j_iload_n (pc := 59) hX dX9_dearest_59 2 rfl ?_
              refine j_iconst (v := 1) (pc := 60) hX dX9_dearest_60 (by decide) ?_
              refine j_iload (pc := 61) hX dX9_dearest_61 5 rfl ?_
              refine j_ishl (pc := 63) hX dX9_dearest_63 ?_
              refine j_top (b := bI t) rfl ?_
              refine j_iconst (v := (-1)) (pc := 64) hX dX9_dearest_64 (by decide) ?_
              refine j_ixor (pc := 65) hX dX9_dearest_65 ?_
              refine j_iand (pc := 66) hX dX9_dearest_66 ?_
              refine j_iast (pc := 67) hX 1 rfl 1 rfl (by omega) (by omega) dX9_dearest_67 ?_
              refine j_ws (ws2 := [(m, .inr (9, [.ref a0, .ref a1, .int (nI un), .ref a3, .ref a4, .ref a5, .int (nI sg), .ref a7, .ref a8, .int (nI mn), .ref a10, .ref a11, .int (nI ti), .int dr, .int (nI rd), .int op])), (a0, .inl (gI g, 60, .inl (nowF (v.1 &&& ((bI t) ^^^ (-1)), v.2.1, v.2.2.1, v.2.2.2.1, v.2.2.2.2))))]) (by first | (rw [nowF_u1]; done) | (rw [nowF_u1]; rfl)) ?_
              refine j_aload_n (pc := 68) hX dX9_dearest_68 0 rfl ?_
              refine j_aload_n (pc := 69) hX dX9_dearest_69 0 rfl ?_
              refine j_iconst (v := 0) (pc := 70) hX dX9_dearest_70 (by decide) ?_
              refine j_iconst (v := 0) (pc := 71) hX dX9_dearest_71 (by decide) ?_
              refine j_callVI (n := 2) (As := [.int 0, .int 0]) (rest := [.ref m]) (pc := 72) hX (c_X9_leastWith g m a0 a1 a3 a4 a5 a7 a8 a10 a11 un sg mn ti dr rd op (v.1 &&& ((bI t) ^^^ (-1)), v.2.1, v.2.2.1, v.2.2.2.1, v.2.2.2.2) 0 0 (by first | assumption | omega)) (CV.of mw794 mw795 mw40 mw52 mw796 ⟨rfl, by decide +kernel, by decide +kernel, by decide +kernel⟩ (T := TX9) (N := 16) rfl) (Nat.le_of_ble_eq_true rfl) (Nat.le_of_ble_eq_true rfl) (Nat.le_of_ble_eq_true rfl) (Nat.le_of_ble_eq_true rfl) 0 rfl [0, 1] (by decide +kernel) rfl rfl rfl (Nat.le_of_ble_eq_true rfl) dX9_dearest_72 (fun r13 wz hq14 => ?_)
              obtain ⟨rfl, rfl⟩ := hq14
              refine j_ws (ws2 := [(m, .inr (9, [.ref a0, .ref a1, .int (nI un), .ref a3, .ref a4, .ref a5, .int (nI sg), .ref a7, .ref a8, .int (nI mn), .ref a10, .ref a11, .int (nI ti), .int dr, .int (nI rd), .int op])), (a0, .inl (gI g, 60, .inl (nowF (v.1 &&& ((bI t) ^^^ (-1)), v.2.1, v.2.2.1, v.2.2.2.1, v.2.2.2.2))))]) rfl ?_
              refine j_callVI (n := 1) (As := [.int (oN (lW (v.1 &&& ((bI t) ^^^ (-1)), v.2.1, v.2.2.1, v.2.2.2.1, v.2.2.2.2) 0 0 (wM (v.1 &&& ((bI t) ^^^ (-1)), v.2.1, v.2.2.1, v.2.2.2.1, v.2.2.2.2))).1)]) (rest := []) (pc := 75) hX (c_X9_pricesOf g m a0 a1 a3 a4 a5 a7 a8 a10 a11 un sg mn ti dr rd op (v.1 &&& ((bI t) ^^^ (-1)), v.2.1, v.2.2.1, v.2.2.2.1, v.2.2.2.2) (oN (lW (v.1 &&& ((bI t) ^^^ (-1)), v.2.1, v.2.2.1, v.2.2.2.1, v.2.2.2.2) 0 0 (wM (v.1 &&& ((bI t) ^^^ (-1)), v.2.1, v.2.2.1, v.2.2.2.1, v.2.2.2.2))).1) (by first | assumption | omega)) (CV.of mw783 mw784 mw39 mw52 mw785 ⟨rfl, by decide +kernel, by decide +kernel, by decide +kernel⟩ (T := TX9) (N := 16) rfl) (Nat.le_of_ble_eq_true rfl) (Nat.le_of_ble_eq_true rfl) (Nat.le_of_ble_eq_true rfl) (Nat.le_of_ble_eq_true rfl) 0 rfl [0, 1] (by decide +kernel) rfl rfl rfl (Nat.le_of_ble_eq_true rfl) dX9_dearest_75 (fun r15 wz hq16 => ?_)
              obtain ⟨rfl, rfl⟩ := hq16
              refine j_ws (ws2 := [(m, .inr (9, [.ref a0, .ref a1, .int (nI un), .ref a3, .ref a4, .ref a5, .int (nI sg), .ref a7, .ref a8, .int (nI mn), .ref a10, .ref a11, .int (nI ti), .int dr, .int (nI rd), .int op])), (a0, .inl (gI g, 60, .inl (nowF (v.1 &&& ((bI t) ^^^ (-1)), v.2.1, v.2.2.1, v.2.2.2.1, v.2.2.2.2))))]) rfl ?_
              refine j_istore (lv2 := [(0, .ref m), (1, .int w0), (2, .int v.1), (3, .int (oN (dM v t).1)), (4, .int ((dM v t).2)), (5, .int (nI t)), (6, .int (S_sum (v.1 &&& ((bI t) ^^^ (-1)), v.2.1, v.2.2.1, v.2.2.2.1, v.2.2.2.2).2.2.2.1 (oN (lW (v.1 &&& ((bI t) ^^^ (-1)), v.2.1, v.2.2.1, v.2.2.2.1, v.2.2.2.2) 0 0 (wM (v.1 &&& ((bI t) ^^^ (-1)), v.2.1, v.2.2.1, v.2.2.2.1, v.2.2.2.2))).1) (v.1 &&& ((bI t) ^^^ (-1)), v.2.1, v.2.2.1, v.2.2.2.1, v.2.2.2.2).2.1))]) (pc := 78) hX dX9_dearest_78 [1, 2, 3, 4, 5, 6, 0] (by decide) rfl ?_
              refine j_iload_n (pc := 80) hX dX9_dearest_80 3 rfl ?_
              refine j_if_lt (tgt := 91) (pc := 81) hX dX9_dearest_81 (by decide) (fun c81_17 => ?_) (fun c81_17 => ?_)
              · skip
                refine j_iload (pc := 91) hX dX9_dearest_91 5 rfl ?_
                refine j_istore_n (lv2 := [(0, .ref m), (1, .int w0), (2, .int v.1), (3, .int (nI t)), (4, .int ((dM v t).2)), (5, .int (nI t)), (6, .int (S_sum (v.1 &&& ((bI t) ^^^ (-1)), v.2.1, v.2.2.1, v.2.2.2.1, v.2.2.2.2).2.2.2.1 (oN (lW (v.1 &&& ((bI t) ^^^ (-1)), v.2.1, v.2.2.1, v.2.2.2.1, v.2.2.2.2) 0 0 (wM (v.1 &&& ((bI t) ^^^ (-1)), v.2.1, v.2.2.1, v.2.2.2.1, v.2.2.2.2))).1) (v.1 &&& ((bI t) ^^^ (-1)), v.2.1, v.2.2.1, v.2.2.2.1, v.2.2.2.2).2.1))]) (pc := 93) hX dX9_dearest_93 [1, 2, 3, 0, 4, 5, 6] (by decide) rfl ?_
                refine j_iload (pc := 94) hX dX9_dearest_94 6 rfl ?_
                refine j_istore (lv2 := [(0, .ref m), (1, .int w0), (2, .int v.1), (3, .int (nI t)), (4, .int (S_sum (v.1 &&& ((bI t) ^^^ (-1)), v.2.1, v.2.2.1, v.2.2.2.1, v.2.2.2.2).2.2.2.1 (oN (lW (v.1 &&& ((bI t) ^^^ (-1)), v.2.1, v.2.2.1, v.2.2.2.1, v.2.2.2.2) 0 0 (wM (v.1 &&& ((bI t) ^^^ (-1)), v.2.1, v.2.2.1, v.2.2.2.1, v.2.2.2.2))).1) (v.1 &&& ((bI t) ^^^ (-1)), v.2.1, v.2.2.1, v.2.2.2.1, v.2.2.2.2).2.1)), (5, .int (nI t)), (6, .int (S_sum (v.1 &&& ((bI t) ^^^ (-1)), v.2.1, v.2.2.1, v.2.2.2.1, v.2.2.2.2).2.2.2.1 (oN (lW (v.1 &&& ((bI t) ^^^ (-1)), v.2.1, v.2.2.1, v.2.2.2.1, v.2.2.2.2) 0 0 (wM (v.1 &&& ((bI t) ^^^ (-1)), v.2.1, v.2.2.1, v.2.2.2.1, v.2.2.2.2))).1) (v.1 &&& ((bI t) ^^^ (-1)), v.2.1, v.2.2.1, v.2.2.2.1, v.2.2.2.2).2.1))]) (pc := 96) hX dX9_dearest_96 [1, 2, 3, 4, 0, 5, 6] (by decide) rfl ?_
                refine j_iinc (v := nI (t + 1)) (lv2 := [(0, .ref m), (1, .int w0), (2, .int v.1), (3, .int (nI t)), (4, .int (S_sum (v.1 &&& ((bI t) ^^^ (-1)), v.2.1, v.2.2.1, v.2.2.2.1, v.2.2.2.2).2.2.2.1 (oN (lW (v.1 &&& ((bI t) ^^^ (-1)), v.2.1, v.2.2.1, v.2.2.2.1, v.2.2.2.2) 0 0 (wM (v.1 &&& ((bI t) ^^^ (-1)), v.2.1, v.2.2.1, v.2.2.2.1, v.2.2.2.2))).1) (v.1 &&& ((bI t) ^^^ (-1)), v.2.1, v.2.2.1, v.2.2.2.1, v.2.2.2.2).2.1)), (5, .int (nI (t + 1))), (6, .int (S_sum (v.1 &&& ((bI t) ^^^ (-1)), v.2.1, v.2.2.1, v.2.2.2.1, v.2.2.2.2).2.2.2.1 (oN (lW (v.1 &&& ((bI t) ^^^ (-1)), v.2.1, v.2.2.1, v.2.2.2.1, v.2.2.2.2) 0 0 (wM (v.1 &&& ((bI t) ^^^ (-1)), v.2.1, v.2.2.1, v.2.2.2.1, v.2.2.2.2))).1) (v.1 &&& ((bI t) ^^^ (-1)), v.2.1, v.2.2.1, v.2.2.2.1, v.2.2.2.2).2.1))]) (pc := 98) hX dX9_dearest_98 5 rfl (nI_add t 1) [1, 2, 3, 4, 5, 0, 6] (by decide) rfl ?_
                refine j_goto (tgt := 38) (pc := 101) hX dX9_dearest_101 (by decide) ?_
                refine j_lvs (lv2 := [(0, .ref m), (1, .int w0), (2, .int v.1), (3, .int (nI t)), (4, .int (S_sum (v.1 &&& ((bI t) ^^^ (-1)), v.2.1, v.2.2.1, v.2.2.2.1, v.2.2.2.2).2.2.2.1 (oN (lW (v.1 &&& ((bI t) ^^^ (-1)), v.2.1, v.2.2.1, v.2.2.2.1, v.2.2.2.2) 0 0 (wM (v.1 &&& ((bI t) ^^^ (-1)), v.2.1, v.2.2.1, v.2.2.2.1, v.2.2.2.2))).1) (v.1 &&& ((bI t) ^^^ (-1)), v.2.1, v.2.2.1, v.2.2.2.1, v.2.2.2.2).2.1)), (5, .int (nI (t + 1)))]) [0, 1, 2, 3, 4, 5] rfl ?_
                exact j_eq (lv2 := [(0, .ref m), (1, .int w0), (2, .int v.1), (3, .int (oN (dM v (t + 1)).1)), (4, .int ((dM v (t + 1)).2)), (5, .int (nI (t + 1)))]) (ws2 := [(m, .inr (9, [.ref a0, .ref a1, .int (nI un), .ref a3, .ref a4, .ref a5, .int (nI sg), .ref a7, .ref a8, .int (nI mn), .ref a10, .ref a11, .int (nI ti), .int dr, .int (nI rd), .int op])), (a0, .inl (gI g, 60, .inl (nowF ((v.1 &&& ((bI t) ^^^ (-1))), v.2))))]) (by first | rfl | (simp only [dM, c6_3, c6_3b, c16_6, c16_6b, c42_7, c42_7n, c42_7m, c51_12, c51_12b, c81_17, reduceIte, eq_self]; first | done | rfl)) (by first | rfl | (simp only [dM, c6_3, c6_3b, c16_6, c16_6b, c42_7, c42_7n, c42_7m, c51_12, c51_12b, c81_17, reduceIte, eq_self]; first | done | rfl)) (ih38 _ (by omega) (t + 1) (v.1 &&& ((bI t) ^^^ (-1))) (by omega) rfl)
              · skip
                refine j_iload (pc := 84) hX dX9_dearest_84 6 rfl ?_
                refine j_iload (pc := 86) hX dX9_dearest_86 4 rfl ?_
                refine j_icmp_ge (tgt := 98) (pc := 88) hX dX9_dearest_88 (by decide) (fun c88_18 => ?_) (fun c88_18 => ?_)
                · skip
                  refine j_iinc (v := nI (t + 1)) (lv2 := [(0, .ref m), (1, .int w0), (2, .int v.1), (3, .int (oN (dM v t).1)), (4, .int ((dM v t).2)), (5, .int (nI (t + 1))), (6, .int (S_sum (v.1 &&& ((bI t) ^^^ (-1)), v.2.1, v.2.2.1, v.2.2.2.1, v.2.2.2.2).2.2.2.1 (oN (lW (v.1 &&& ((bI t) ^^^ (-1)), v.2.1, v.2.2.1, v.2.2.2.1, v.2.2.2.2) 0 0 (wM (v.1 &&& ((bI t) ^^^ (-1)), v.2.1, v.2.2.1, v.2.2.2.1, v.2.2.2.2))).1) (v.1 &&& ((bI t) ^^^ (-1)), v.2.1, v.2.2.1, v.2.2.2.1, v.2.2.2.2).2.1))]) (pc := 98) hX dX9_dearest_98 5 rfl (nI_add t 1) [1, 2, 3, 4, 5, 0, 6] (by decide) rfl ?_
                  refine j_goto (tgt := 38) (pc := 101) hX dX9_dearest_101 (by decide) ?_
                  refine j_lvs (lv2 := [(0, .ref m), (1, .int w0), (2, .int v.1), (3, .int (oN (dM v t).1)), (4, .int ((dM v t).2)), (5, .int (nI (t + 1)))]) [0, 1, 2, 3, 4, 5] rfl ?_
                  exact j_eq (lv2 := [(0, .ref m), (1, .int w0), (2, .int v.1), (3, .int (oN (dM v (t + 1)).1)), (4, .int ((dM v (t + 1)).2)), (5, .int (nI (t + 1)))]) (ws2 := [(m, .inr (9, [.ref a0, .ref a1, .int (nI un), .ref a3, .ref a4, .ref a5, .int (nI sg), .ref a7, .ref a8, .int (nI mn), .ref a10, .ref a11, .int (nI ti), .int dr, .int (nI rd), .int op])), (a0, .inl (gI g, 60, .inl (nowF ((v.1 &&& ((bI t) ^^^ (-1))), v.2))))]) (by first | rfl | (simp only [dM, c6_3, c6_3b, c16_6, c16_6b, c42_7, c42_7n, c42_7m, c51_12, c51_12b, c81_17, c88_18, reduceIte, eq_self]; first | done | rfl)) (by first | rfl | (simp only [dM, c6_3, c6_3b, c16_6, c16_6b, c42_7, c42_7n, c42_7m, c51_12, c51_12b, c81_17, c88_18, reduceIte, eq_self]; first | done | rfl)) (ih38 _ (by omega) (t + 1) (v.1 &&& ((bI t) ^^^ (-1))) (by omega) rfl)
                · skip
                  refine j_iload (pc := 91) hX dX9_dearest_91 5 rfl ?_
                  refine j_istore_n (lv2 := [(0, .ref m), (1, .int w0), (2, .int v.1), (3, .int (nI t)), (4, .int ((dM v t).2)), (5, .int (nI t)), (6, .int (S_sum (v.1 &&& ((bI t) ^^^ (-1)), v.2.1, v.2.2.1, v.2.2.2.1, v.2.2.2.2).2.2.2.1 (oN (lW (v.1 &&& ((bI t) ^^^ (-1)), v.2.1, v.2.2.1, v.2.2.2.1, v.2.2.2.2) 0 0 (wM (v.1 &&& ((bI t) ^^^ (-1)), v.2.1, v.2.2.1, v.2.2.2.1, v.2.2.2.2))).1) (v.1 &&& ((bI t) ^^^ (-1)), v.2.1, v.2.2.1, v.2.2.2.1, v.2.2.2.2).2.1))]) (pc := 93) hX dX9_dearest_93 [1, 2, 3, 0, 4, 5, 6] (by decide) rfl ?_
                  refine j_iload (pc := 94) hX dX9_dearest_94 6 rfl ?_
                  refine j_istore (lv2 := [(0, .ref m), (1, .int w0), (2, .int v.1), (3, .int (nI t)), (4, .int (S_sum (v.1 &&& ((bI t) ^^^ (-1)), v.2.1, v.2.2.1, v.2.2.2.1, v.2.2.2.2).2.2.2.1 (oN (lW (v.1 &&& ((bI t) ^^^ (-1)), v.2.1, v.2.2.1, v.2.2.2.1, v.2.2.2.2) 0 0 (wM (v.1 &&& ((bI t) ^^^ (-1)), v.2.1, v.2.2.1, v.2.2.2.1, v.2.2.2.2))).1) (v.1 &&& ((bI t) ^^^ (-1)), v.2.1, v.2.2.1, v.2.2.2.1, v.2.2.2.2).2.1)), (5, .int (nI t)), (6, .int (S_sum (v.1 &&& ((bI t) ^^^ (-1)), v.2.1, v.2.2.1, v.2.2.2.1, v.2.2.2.2).2.2.2.1 (oN (lW (v.1 &&& ((bI t) ^^^ (-1)), v.2.1, v.2.2.1, v.2.2.2.1, v.2.2.2.2) 0 0 (wM (v.1 &&& ((bI t) ^^^ (-1)), v.2.1, v.2.2.1, v.2.2.2.1, v.2.2.2.2))).1) (v.1 &&& ((bI t) ^^^ (-1)), v.2.1, v.2.2.1, v.2.2.2.1, v.2.2.2.2).2.1))]) (pc := 96) hX dX9_dearest_96 [1, 2, 3, 4, 0, 5, 6] (by decide) rfl ?_
                  refine j_iinc (v := nI (t + 1)) (lv2 := [(0, .ref m), (1, .int w0), (2, .int v.1), (3, .int (nI t)), (4, .int (S_sum (v.1 &&& ((bI t) ^^^ (-1)), v.2.1, v.2.2.1, v.2.2.2.1, v.2.2.2.2).2.2.2.1 (oN (lW (v.1 &&& ((bI t) ^^^ (-1)), v.2.1, v.2.2.1, v.2.2.2.1, v.2.2.2.2) 0 0 (wM (v.1 &&& ((bI t) ^^^ (-1)), v.2.1, v.2.2.1, v.2.2.2.1, v.2.2.2.2))).1) (v.1 &&& ((bI t) ^^^ (-1)), v.2.1, v.2.2.1, v.2.2.2.1, v.2.2.2.2).2.1)), (5, .int (nI (t + 1))), (6, .int (S_sum (v.1 &&& ((bI t) ^^^ (-1)), v.2.1, v.2.2.1, v.2.2.2.1, v.2.2.2.2).2.2.2.1 (oN (lW (v.1 &&& ((bI t) ^^^ (-1)), v.2.1, v.2.2.1, v.2.2.2.1, v.2.2.2.2) 0 0 (wM (v.1 &&& ((bI t) ^^^ (-1)), v.2.1, v.2.2.1, v.2.2.2.1, v.2.2.2.2))).1) (v.1 &&& ((bI t) ^^^ (-1)), v.2.1, v.2.2.1, v.2.2.2.1, v.2.2.2.2).2.1))]) (pc := 98) hX dX9_dearest_98 5 rfl (nI_add t 1) [1, 2, 3, 4, 5, 0, 6] (by decide) rfl ?_
                  refine j_goto (tgt := 38) (pc := 101) hX dX9_dearest_101 (by decide) ?_
                  refine j_lvs (lv2 := [(0, .ref m), (1, .int w0), (2, .int v.1), (3, .int (nI t)), (4, .int (S_sum (v.1 &&& ((bI t) ^^^ (-1)), v.2.1, v.2.2.1, v.2.2.2.1, v.2.2.2.2).2.2.2.1 (oN (lW (v.1 &&& ((bI t) ^^^ (-1)), v.2.1, v.2.2.1, v.2.2.2.1, v.2.2.2.2) 0 0 (wM (v.1 &&& ((bI t) ^^^ (-1)), v.2.1, v.2.2.1, v.2.2.2.1, v.2.2.2.2))).1) (v.1 &&& ((bI t) ^^^ (-1)), v.2.1, v.2.2.1, v.2.2.2.1, v.2.2.2.2).2.1)), (5, .int (nI (t + 1)))]) [0, 1, 2, 3, 4, 5] rfl ?_
                  exact j_eq (lv2 := [(0, .ref m), (1, .int w0), (2, .int v.1), (3, .int (oN (dM v (t + 1)).1)), (4, .int ((dM v (t + 1)).2)), (5, .int (nI (t + 1)))]) (ws2 := [(m, .inr (9, [.ref a0, .ref a1, .int (nI un), .ref a3, .ref a4, .ref a5, .int (nI sg), .ref a7, .ref a8, .int (nI mn), .ref a10, .ref a11, .int (nI ti), .int dr, .int (nI rd), .int op])), (a0, .inl (gI g, 60, .inl (nowF ((v.1 &&& ((bI t) ^^^ (-1))), v.2))))]) (by first | rfl | (simp only [dM, c6_3, c6_3b, c16_6, c16_6b, c42_7, c42_7n, c42_7m, c51_12, c51_12b, c81_17, c88_18, reduceIte, eq_self]; first | done | rfl)) (by first | rfl | (simp only [dM, c6_3, c6_3b, c16_6, c16_6b, c42_7, c42_7n, c42_7m, c51_12, c51_12b, c81_17, c88_18, reduceIte, eq_self]; first | done | rfl)) (ih38 _ (by omega) (t + 1) (v.1 &&& ((bI t) ^^^ (-1))) (by omega) rfl)
      exact j_eq (lv2 := [(0, .ref m), (1, .int w0), (2, .int v.1), (3, .int (oN (dM v 0).1)), (4, .int ((dM v 0).2)), (5, .int (nI 0))]) (ws2 := [(m, .inr (9, [.ref a0, .ref a1, .int (nI un), .ref a3, .ref a4, .ref a5, .int (nI sg), .ref a7, .ref a8, .int (nI mn), .ref a10, .ref a11, .int (nI ti), .int dr, .int (nI rd), .int op])), (a0, .inl (gI g, 60, .inl (nowF (v.1, v.2))))]) (rfl) (rfl) (L38 _ 0 v.1 (by omega) rfl)
    · skip
      have c16_6b : (hasM v) = false := jb_0.mp c16_6
      refine j_bipush (v := (-5)) (pc := 19) hX dX9_dearest_19 (by decide) ?_
      exact j_iret (pc := 21) hX hQ dX9_dearest_21 rfl ⟨(by unfold rDearM; (first | rw [if_pos c6_3b] | rw [if_neg c6_3b] | rw [if_neg (nbt c6_3b)]); (first | rw [if_pos c16_6b] | rw [if_neg c16_6b] | rw [if_neg (nbt c16_6b)]); try rfl), (by first | rfl | first | (simp only [jb_t, jb_f, c6_3, c6_3b, c16_6, c16_6b, reduceIte, eq_self, decide_true, decide_false, Bool.and_true, Bool.true_and, Bool.and_false, Bool.false_and, Bool.and_self, not_true_eq_false, not_false_eq_true, and_true, true_and, and_false, false_and, and_self]; done) | (simp [jb_t, jb_f, c6_3, c6_3b, c16_6, c16_6b]; done))⟩
  · skip
    have c6_3b : (S_in w0 0 1) = false := jb_0.mp c6_3
    refine j_bipush (v := (-2)) (pc := 9) hX dX9_dearest_9 (by decide) ?_
    exact j_iret (pc := 11) hX hQ dX9_dearest_11 rfl ⟨(by unfold rDearM; (first | rw [if_pos c6_3b] | rw [if_neg c6_3b] | rw [if_neg (nbt c6_3b)]); try rfl), (by first | rfl | first | (simp only [jb_t, jb_f, c6_3, c6_3b, reduceIte, eq_self, decide_true, decide_false, Bool.and_true, Bool.true_and, Bool.and_false, Bool.false_and, Bool.and_self, not_true_eq_false, not_false_eq_true, and_true, true_and, and_false, false_and, and_self]; done) | (simp [jb_t, jb_f, c6_3, c6_3b]; done))⟩

