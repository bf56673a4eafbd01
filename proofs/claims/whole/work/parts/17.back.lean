/-! the reference: what a change does -/
def hisF (w : Nat → StT) : Nat → Int32 := fun j => nowF (w (j / 60)) (j % 60)
def S_shf (f : Nat → Int32) (k : Nat) : Nat → Int32 := fun j => if j < k then f (j + 60) else f j
theorem S_shf_0 (f : Nat → Int32) : S_shf f 0 = f := funext fun j => if_neg (Nat.not_lt_zero j)
theorem S_shf_at (f : Nat → Int32) (k : Nat) : S_shf f k (k + 60) = f (k + 60) := if_neg (by omega)
theorem S_shf_s (f : Nat → Int32) (k : Nat) : upd (S_shf f k) k (f (k + 60)) = S_shf f (k + 1) := by
  funext j
  unfold upd S_shf
  by_cases h : j = k
  · subst h
    rw [if_pos rfl, if_pos (by omega)]
  · rw [if_neg h]
    by_cases h2 : j < k
    · rw [if_pos h2, if_pos (by omega)]
    · rw [if_neg h2, if_neg (by omega)]
def shW (w : Nat → StT) : Nat → StT := fun b => if b < 5 then w (b + 1) else w b
theorem S_shf_e (w : Nat → StT) : S_shf (hisF w) 300 = hisF (shW w) := by
  funext j
  unfold S_shf hisF shW
  by_cases h : j < 300
  · rw [if_pos h, if_pos (show j / 60 < 5 by omega), show (j + 60) / 60 = j / 60 + 1 by omega, show (j + 60) % 60 = j % 60 by omega]
  · rw [if_neg h, if_neg (show ¬ j / 60 < 5 by omega)]
def S_cpo (f h : Nat → Int32) (o k : Nat) : Nat → Int32 := fun j => if o ≤ j ∧ j < o + k then h (j - o) else f j
theorem S_cpo_0 (f h : Nat → Int32) (o : Nat) : S_cpo f h o 0 = f := funext fun j => if_neg (by omega)
theorem S_cpo_s (f h : Nat → Int32) (o k : Nat) : upd (S_cpo f h o k) (o + k) (h k) = S_cpo f h o (k + 1) := by
  funext j
  unfold upd S_cpo
  by_cases h1 : j = o + k
  · subst h1
    rw [if_pos rfl, if_pos (by omega)]
    exact congrArg h (by omega)
  · rw [if_neg h1]
    by_cases h2 : o ≤ j ∧ j < o + k
    · rw [if_pos h2, if_pos (by omega)]
    · rw [if_neg h2, if_neg (by omega)]
theorem his_put (w : Nat → StT) (v : StT) (u : Nat) : S_cpo (hisF w) (nowF v) (u * 60) 60 = hisF (sU w u v) := by
  funext j
  unfold S_cpo hisF sU
  by_cases h : u * 60 ≤ j ∧ j < u * 60 + 60
  · rw [if_pos h, if_pos (show j / 60 = u by omega), show j % 60 = j - u * 60 by omega]
  · rw [if_neg h, if_neg (show ¬ j / 60 = u by omega)]
def rW (w : Nat → StT) (un : Nat) (v : StT) : Nat → StT := if un = 6 then sU (shW w) 5 v else sU w un v
theorem his_put6 (w : Nat → StT) (v : StT) : S_cpo (S_shf (hisF w) 300) (nowF v) 300 60 = hisF (rW w 6 v) := by
  rw [S_shf_e]
  exact his_put (shW w) v 5
theorem his_put0 (w : Nat → StT) (v : StT) {u : Nat} (h : ¬ u = 6) : S_cpo (hisF w) (nowF v) (u * 60) 60 = hisF (rW w u v) := by
  rw [rW, if_neg h]
  exact his_put w v u
def mW (b : Bool) (w : Nat → StT) (un : Nat) (v : StT) : Nat → StT := match b with | true => rW w un v | false => w
theorem in_need (i : Int32) : S_in i 0 262143 = okNeed i := by
  unfold S_in okNeed
  exact decide_eq_decide.mpr (and_congr_right (fun _ => Int32.not_lt))
theorem in_mk (i : Int32) : S_in i 0 2 = okMk i := by
  unfold S_in okMk
  exact decide_eq_decide.mpr (and_congr_right (fun _ => Int32.not_lt))
theorem in_slot (i : Int32) : S_in i 0 1 = okSlot i := by
  unfold S_in okSlot
  apply decide_eq_decide.mpr
  constructor
  · rintro ⟨h1, h2⟩
    obtain ⟨j, hj, rfl⟩ := nI_of h1
    refine ⟨h1, (nI_ltI (a := j) (b := 2) hj (by decide)).mpr ?_⟩
    have : ¬ 1 < j := fun h => h2 ((nI_ltI (a := 1) (b := j) (by decide) hj).mpr h)
    omega
  · rintro ⟨h1, h2⟩
    obtain ⟨j, hj, rfl⟩ := nI_of h1
    refine ⟨h1, fun h3 => ?_⟩
    have h4 := (nI_ltI (a := j) (b := 2) hj (by decide)).mp h2
    have h5 := (nI_ltI (a := 1) (b := j) (by decide) hj).mp h3
    omega
theorem xor0 {a b : Int32} : a ^^^ b = 0 ↔ a = b := by
  constructor
  · intro h
    apply b_ext
    intro i hi
    have h2 := congrArg (fun z => bt z i) h
    simp only [b_xor, b_0] at h2
    revert h2
    cases bt a i <;> cases bt b i <;> simp
  · rintro rfl
    exact Int32.xor_self
def drF (v : StT) (s k : Nat) : Nat → Int32 := fun q => if 10 + 3 * s ≤ q ∧ q < k then nowF v (q + 3) else nowF v q
theorem drF_b (v : StT) (s : Nat) : drF v s (10 + 3 * s) = nowF v := funext fun j => if_neg (by omega)
theorem drF_n (v : StT) (s k : Nat) : drF v s k 0 = nI v.2.1 := if_neg (by omega)
theorem drF_at (v : StT) (s k : Nat) : drF v s k (k + 3) = nowF v (k + 3) := if_neg (by omega)
theorem drF_s (v : StT) (s k : Nat) (h : 10 + 3 * s ≤ k) : upd (drF v s k) k (nowF v (k + 3)) = drF v s (k + 1) := by
  funext j
  unfold upd drF
  by_cases h1 : j = k
  · subst h1
    rw [if_pos rfl, if_pos (by omega)]
  · rw [if_neg h1]
    by_cases h2 : 10 + 3 * s ≤ j ∧ j < k
    · rw [if_pos h2, if_pos (by omega)]
    · rw [if_neg h2, if_neg (by omega)]
theorem drF_e (v : StT) {s : Nat} (hs : s < v.2.1) (h14 : v.2.1 ≤ 14) : drF (v.1, v.2.1 - 1, v.2.2) s (10 + 3 * (v.2.1 - 1)) = nowF (vDrop v (nI s)) := by
  have hk : kN (nI s) = s := kN_nI (by omega)
  funext j
  unfold drF vDrop
  rw [hk]
  by_cases h10 : j < 10
  · rw [if_neg (by omega)]
    unfold nowF
    simp only [h10, if_true]
  · unfold nowF S_rm
    have g0 : ¬ j = 0 := by omega
    have g1 : ¬ j = 1 := by omega
    have g3 : ¬ j + 3 = 0 := by omega
    have g4 : ¬ j + 3 = 1 := by omega
    have g5 : ¬ j + 3 < 10 := by omega
    have g6 : (j + 3 - 10) % 3 = (j - 10) % 3 := by omega
    have g7 : (j + 3 - 10) / 3 = (j - 10) / 3 + 1 := by omega
    by_cases h : 10 + 3 * s ≤ j ∧ j < 10 + 3 * (v.2.1 - 1)
    · have h2 : s ≤ (j - 10) / 3 ∧ (j - 10) / 3 + 1 < v.2.1 := by omega
      simp only [h, h2, h10, g0, g1, g3, g4, g5, g6, g7, if_true, if_false, and_self]
    · have h2 : ¬ (s ≤ (j - 10) / 3 ∧ (j - 10) / 3 + 1 < v.2.1) := by omega
      simp only [h, h2, h10, g0, g1, if_false]
def S_cq (F f : Nat → Int32) (o k : Nat) : Nat → Int32 := fun j => if j < k then F (o + j) else f j
theorem S_cq_0 (F f : Nat → Int32) (o : Nat) : S_cq F f o 0 = f := funext fun j => if_neg (Nat.not_lt_zero j)
theorem S_cq_s (F f : Nat → Int32) (o k : Nat) : upd (S_cq F f o k) k (F (o + k)) = S_cq F f o (k + 1) := by
  funext j
  unfold upd S_cq
  by_cases h : j = k
  · subst h
    rw [if_pos rfl, if_pos (by omega)]
  · rw [if_neg h]
    by_cases h2 : j < k
    · rw [if_pos h2, if_pos (by omega)]
    · rw [if_neg h2, if_neg (by omega)]
theorem S_cq_e (w : Nat → StT) (f : Nat → Int32) (u : Nat) : ∀ j, j < 60 → S_cq (hisF w) f (u * 60) 60 j = nowF (w u) j := by
  intro j hj
  unfold S_cq hisF
  rw [if_pos hj, show (u * 60 + j) / 60 = u by omega, show (u * 60 + j) % 60 = j by omega]
theorem kB_u (b : Nat → Bool) (k : Nat) : upd (kB b) k (vp_nar .boolean 1) = kB (bU b k) := by
  funext j
  unfold kB bU upd
  by_cases h : j = k
  · subst h; simp [jb, vp_nar, narrow]; try rfl
  · simp [h]

set_option maxHeartbeats 4000000 in
set_option maxRecDepth 100000 in
theorem c_X9_record (g : jG) (m : Nat) (a0 : Nat) (a1 : Nat) (a3 : Nat) (a4 : Nat) (a5 : Nat) (a7 : Nat) (a8 : Nat) (a10 : Nat) (a11 : Nat) (un : Nat) (sg : Nat) (mn : Nat) (ti : Nat) (dr : Int32) (rd : Nat) (op : Int32) (v : StT) (w : Nat → StT) (hv : v.2.1 ≤ 14) (hu : un ≤ 6) : jMV g yX9_record cX9_record 2 0 0 0 0 [.ref m] [(m, .inr (9, [.ref a0, .ref a1, .int (nI un), .ref a3, .ref a4, .ref a5, .int (nI sg), .ref a7, .ref a8, .int (nI mn), .ref a10, .ref a11, .int (nI ti), .int dr, .int (nI rd), .int op])), (a0, .inl (gI g, 60, .inl (nowF v))), (a1, .inl (gI g, 360, .inl (hisF w)))] (fun wz wzn => wz = [(m, .inr (9, [.ref a0, .ref a1, .int (nI (hC un)), .ref a3, .ref a4, .ref a5, .int (nI sg), .ref a7, .ref a8, .int (nI mn), .ref a10, .ref a11, .int (nI ti), .int dr, .int (nI rd), .int op])), (a0, .inl (gI g, 60, .inl (nowF v))), (a1, .inl (gI g, 360, .inl (hisF (rW w un v))))] ∧ wzn = []) := by
  refine jMV.intro (by decide +kernel) (Nat.le_of_ble_eq_true rfl) (fun x hX hQ hN => ?_)
  refine j_lv (lv2 := [(0, .ref m)]) rfl ?_
  refine j_aload_n (pc := 0) hX dX9_record_0 0 rfl ?_
  refine j_get (ci := 9) (pc := 1) hX inG9 rfl 2 (by decide) mw626 0 rfl rfl dX9_record_1 ?_
  refine j_bipush (v := 6) (pc := 4) hX dX9_record_4 (by decide) ?_
  refine j_icmp_ne (tgt := 44) (pc := 6) hX dX9_record_6 (by decide) (fun c6_1 => ?_) (fun c6_1 => ?_)
  · skip
    have c6_1n : ¬ un = 6 := fun h9 => c6_1 ((nI_eq (a := un) (b := 6) (by omega) (by omega)).mpr h9)
    refine j_iconst (v := 0) (pc := 44) hX dX9_record_44 (by decide) ?_
    refine j_istore_n (lv2 := [(0, .ref m), (1, .int 0)]) (pc := 45) hX dX9_record_45 [1, 0] (by decide) rfl ?_
    have L46 : ∀ (d : Nat) (k : Nat), k ≤ 60 → 60 - k = d → J g x 2 0 0 46 [(0, .ref m), (1, .int (nI k))] [] [(m, .inr (9, [.ref a0, .ref a1, .int (nI un), .ref a3, .ref a4, .ref a5, .int (nI sg), .ref a7, .ref a8, .int (nI mn), .ref a10, .ref a11, .int (nI ti), .int dr, .int (nI rd), .int op])), (a0, .inl (gI g, 60, .inl (nowF v))), (a1, .inl (gI g, 360, .inl (S_cpo (hisF w) (nowF v) (un * 60) k)))] := by
      intro d
      induction d using Nat.strongRecOn with
      | _ d ih46 =>
        intro k hk hd46
        refine j_iload_n (pc := 46) hX dX9_record_46 1 rfl ?_
        refine j_bipush (v := 60) (pc := 47) hX dX9_record_47 (by decide) ?_
        refine j_icmp_ge (tgt := 78) (pc := 49) hX dX9_record_49 (by decide) (fun c49_2 => ?_) (fun c49_2 => ?_)
        · skip
          have c49_2n : 60 ≤ k := (nI_leI (a := 60) (b := k) (by omega) (by omega)).mp c49_2
          have c49_2m : ¬ k < 60 := by omega
          refine j_aload_n (pc := 78) hX dX9_record_78 0 rfl ?_
          refine j_dup (pc := 79) hX dX9_record_79 rfl ?_
          refine j_get (ci := 9) (pc := 80) hX inG9 rfl 2 (by decide) mw626 0 rfl rfl dX9_record_80 ?_
          refine j_iconst (v := 1) (pc := 83) hX dX9_record_83 (by decide) ?_
          refine j_iadd (pc := 84) hX dX9_record_84 ?_
          refine j_top (b := nI (un + 1)) (nI_add un 1) ?_
          refine j_put (ci := 9) (ty := .int) (pc := 85) hX inG9 tyX9 tyX9_ok nmG9 rfl 2 (by decide) mw626 rfl (by decide +kernel) 0 rfl (Nat.le_of_ble_eq_true rfl) (rfl) rfl dX9_record_85 ?_
          refine j_ws (ws2 := [(m, .inr (9, [.ref a0, .ref a1, .int (nI (un + 1)), .ref a3, .ref a4, .ref a5, .int (nI sg), .ref a7, .ref a8, .int (nI mn), .ref a10, .ref a11, .int (nI ti), .int dr, .int (nI rd), .int op])), (a0, .inl (gI g, 60, .inl (nowF v))), (a1, .inl (gI g, 360, .inl (S_cpo (hisF w) (nowF v) (un * 60) k)))]) rfl ?_
          exact j_vret (pc := 88) hX hQ dX9_record_88 [(m, .inr (9, [.ref a0, .ref a1, .int (nI (un + 1)), .ref a3, .ref a4, .ref a5, .int (nI sg), .ref a7, .ref a8, .int (nI mn), .ref a10, .ref a11, .int (nI ti), .int dr, .int (nI rd), .int op])), (a0, .inl (gI g, 60, .inl (nowF v))), (a1, .inl (gI g, 360, .inl (S_cpo (hisF w) (nowF v) (un * 60) k)))] [] rfl rfl ⟨(by rw [show k = 60 by omega, his_put0 w v c6_1n]; simp only [hC, c6_1n, if_false]), (rfl)⟩
        · skip
          have c49_2n : ¬ 60 ≤ k := fun h9 => c49_2 ((nI_leI (a := 60) (b := k) (by omega) (by omega)).mpr h9)
          have c49_2m : k < 60 := by omega
          refine j_aload_n (pc := 52) hX dX9_record_52 0 rfl ?_
          refine j_get (ci := 9) (pc := 53) hX inG9 rfl 1 (by decide) mw625 0 rfl rfl dX9_record_53 ?_
          refine j_aload_n (pc := 56) hX dX9_record_56 0 rfl ?_
          refine j_get (ci := 9) (pc := 57) hX inG9 rfl 2 (by decide) mw626 0 rfl rfl dX9_record_57 ?_
          refine j_bipush (v := 60) (pc := 60) hX dX9_record_60 (by decide) ?_
          refine j_imul (pc := 62) hX dX9_record_62 ?_
          refine j_top (b := nI (un * 60)) (pk_mul un 60) ?_
          refine j_iload_n (pc := 63) hX dX9_record_63 1 rfl ?_
          refine j_iadd (pc := 64) hX dX9_record_64 ?_
          refine j_top (b := nI ((un * 60) + k)) (nI_add (un * 60) k) ?_
          refine j_aload_n (pc := 65) hX dX9_record_65 0 rfl ?_
          refine j_get (ci := 9) (pc := 66) hX inG9 rfl 0 (by decide) mw624 0 rfl rfl dX9_record_66 ?_
          refine j_iload_n (pc := 69) hX dX9_record_69 1 rfl ?_
          refine j_iald (pc := 70) hX 1 rfl k rfl (by omega) (by omega) dX9_record_70 ?_
          refine j_iast (pc := 71) hX 2 rfl ((un * 60) + k) rfl (by omega) (by omega) dX9_record_71 ?_
          refine j_ws (ws2 := [(m, .inr (9, [.ref a0, .ref a1, .int (nI un), .ref a3, .ref a4, .ref a5, .int (nI sg), .ref a7, .ref a8, .int (nI mn), .ref a10, .ref a11, .int (nI ti), .int dr, .int (nI rd), .int op])), (a0, .inl (gI g, 60, .inl (nowF v))), (a1, .inl (gI g, 360, .inl (upd (S_cpo (hisF w) (nowF v) (un * 60) k) ((un * 60) + k) ((nowF v) k))))]) rfl ?_
          refine j_iinc (v := nI (k + 1)) (lv2 := [(0, .ref m), (1, .int (nI (k + 1)))]) (pc := 72) hX dX9_record_72 1 rfl (nI_add k 1) [1, 0] (by decide) rfl ?_
          refine j_goto (tgt := 46) (pc := 75) hX dX9_record_75 (by decide) ?_
          exact j_eq (lv2 := [(0, .ref m), (1, .int (nI (k + 1)))]) (ws2 := [(m, .inr (9, [.ref a0, .ref a1, .int (nI un), .ref a3, .ref a4, .ref a5, .int (nI sg), .ref a7, .ref a8, .int (nI mn), .ref a10, .ref a11, .int (nI ti), .int dr, .int (nI rd), .int op])), (a0, .inl (gI g, 60, .inl (nowF v))), (a1, .inl (gI g, 360, .inl (S_cpo (hisF w) (nowF v) (un * 60) (k + 1))))]) (by first | rfl | rw [← S_cpo_s]) (by first | rfl | rw [← S_cpo_s]) (ih46 _ (by omega) (k + 1) (by omega) rfl)
    exact j_eq (lv2 := [(0, .ref m), (1, .int (nI 0))]) (ws2 := [(m, .inr (9, [.ref a0, .ref a1, .int (nI un), .ref a3, .ref a4, .ref a5, .int (nI sg), .ref a7, .ref a8, .int (nI mn), .ref a10, .ref a11, .int (nI ti), .int dr, .int (nI rd), .int op])), (a0, .inl (gI g, 60, .inl (nowF v))), (a1, .inl (gI g, 360, .inl (S_cpo (hisF w) (nowF v) (un * 60) 0)))]) (by first | rfl | rw [S_cpo_0]) (by first | rfl | rw [S_cpo_0]) (L46 _ 0 (by omega) rfl)
  · skip
    have c6_1n : un = 6 := (nI_eq (a := un) (b := 6) (by omega) (by omega)).mp c6_1
    refine j_iconst (v := 0) (pc := 9) hX dX9_record_9 (by decide) ?_
    refine j_istore_n (lv2 := [(0, .ref m), (1, .int 0)]) (pc := 10) hX dX9_record_10 [1, 0] (by decide) rfl ?_
    have L11 : ∀ (d : Nat) (k : Nat), k ≤ 300 → 300 - k = d → J g x 2 0 0 11 [(0, .ref m), (1, .int (nI k))] [] [(m, .inr (9, [.ref a0, .ref a1, .int (nI un), .ref a3, .ref a4, .ref a5, .int (nI sg), .ref a7, .ref a8, .int (nI mn), .ref a10, .ref a11, .int (nI ti), .int dr, .int (nI rd), .int op])), (a0, .inl (gI g, 60, .inl (nowF v))), (a1, .inl (gI g, 360, .inl (S_shf (hisF w) k)))] := by
      intro d
      induction d using Nat.strongRecOn with
      | _ d ih11 =>
        intro k hk hd11
        refine j_iload_n (pc := 11) hX dX9_record_11 1 rfl ?_
        refine j_sipush (v := 300) (pc := 12) hX dX9_record_12 (by decide) ?_
        refine j_icmp_ge (tgt := 39) (pc := 15) hX dX9_record_15 (by decide) (fun c15_3 => ?_) (fun c15_3 => ?_)
        · skip
          have c15_3n : 300 ≤ k := (nI_leI (a := 300) (b := k) (by omega) (by omega)).mp c15_3
          have c15_3m : ¬ k < 300 := by omega
          have hk300 : k = 300 := by omega
          subst hk300
          refine j_aload_n (pc := 39) hX dX9_record_39 0 rfl ?_
          refine j_iconst (v := 5) (pc := 40) hX dX9_record_40 (by decide) ?_
          refine j_put (ci := 9) (ty := .int) (pc := 41) hX inG9 tyX9 tyX9_ok nmG9 rfl 2 (by decide) mw626 rfl (by decide +kernel) 0 rfl (Nat.le_of_ble_eq_true rfl) (rfl) rfl dX9_record_41 ?_
          refine j_ws (ws2 := [(m, .inr (9, [.ref a0, .ref a1, .int 5, .ref a3, .ref a4, .ref a5, .int (nI sg), .ref a7, .ref a8, .int (nI mn), .ref a10, .ref a11, .int (nI ti), .int dr, .int (nI rd), .int op])), (a0, .inl (gI g, 60, .inl (nowF v))), (a1, .inl (gI g, 360, .inl (S_shf (hisF w) 300)))]) rfl ?_
          refine j_iconst (v := 0) (pc := 44) hX dX9_record_44 (by decide) ?_
          refine j_istore_n (lv2 := [(0, .ref m), (1, .int 0)]) (pc := 45) hX dX9_record_45 [1, 0] (by decide) rfl ?_
          have L46 : ∀ (d : Nat) (k : Nat), k ≤ 60 → 60 - k = d → J g x 2 0 0 46 [(0, .ref m), (1, .int (nI k))] [] [(m, .inr (9, [.ref a0, .ref a1, .int 5, .ref a3, .ref a4, .ref a5, .int (nI sg), .ref a7, .ref a8, .int (nI mn), .ref a10, .ref a11, .int (nI ti), .int dr, .int (nI rd), .int op])), (a0, .inl (gI g, 60, .inl (nowF v))), (a1, .inl (gI g, 360, .inl (S_cpo (S_shf (hisF w) 300) (nowF v) 300 k)))] := by
            intro d
            induction d using Nat.strongRecOn with
            | _ d ih46 =>
              intro k hk hd46
              refine j_iload_n (pc := 46) hX dX9_record_46 1 rfl ?_
              refine j_bipush (v := 60) (pc := 47) hX dX9_record_47 (by decide) ?_
              refine j_icmp_ge (tgt := 78) (pc := 49) hX dX9_record_49 (by decide) (fun c49_4 => ?_) (fun c49_4 => ?_)
              · skip
                have c49_4n : 60 ≤ k := (nI_leI (a := 60) (b := k) (by omega) (by omega)).mp c49_4
                have c49_4m : ¬ k < 60 := by omega
                refine j_aload_n (pc := 78) hX dX9_record_78 0 rfl ?_
                refine j_dup (pc := 79) hX dX9_record_79 rfl ?_
                refine j_get (ci := 9) (pc := 80) hX inG9 rfl 2 (by decide) mw626 0 rfl rfl dX9_record_80 ?_
                refine j_iconst (v := 1) (pc := 83) hX dX9_record_83 (by decide) ?_
                refine j_iadd (pc := 84) hX dX9_record_84 ?_
                refine j_top (b := 6) (by decide) ?_
                refine j_put (ci := 9) (ty := .int) (pc := 85) hX inG9 tyX9 tyX9_ok nmG9 rfl 2 (by decide) mw626 rfl (by decide +kernel) 0 rfl (Nat.le_of_ble_eq_true rfl) (rfl) rfl dX9_record_85 ?_
                refine j_ws (ws2 := [(m, .inr (9, [.ref a0, .ref a1, .int 6, .ref a3, .ref a4, .ref a5, .int (nI sg), .ref a7, .ref a8, .int (nI mn), .ref a10, .ref a11, .int (nI ti), .int dr, .int (nI rd), .int op])), (a0, .inl (gI g, 60, .inl (nowF v))), (a1, .inl (gI g, 360, .inl (S_cpo (S_shf (hisF w) 300) (nowF v) 300 k)))]) rfl ?_
                exact j_vret (pc := 88) hX hQ dX9_record_88 [(m, .inr (9, [.ref a0, .ref a1, .int 6, .ref a3, .ref a4, .ref a5, .int (nI sg), .ref a7, .ref a8, .int (nI mn), .ref a10, .ref a11, .int (nI ti), .int dr, .int (nI rd), .int op])), (a0, .inl (gI g, 60, .inl (nowF v))), (a1, .inl (gI g, 360, .inl (S_cpo (S_shf (hisF w) 300) (nowF v) 300 k)))] [] rfl rfl ⟨(by rw [show k = 60 by omega]; subst c6_1n; rw [his_put6]; rfl), (rfl)⟩
              · skip
                have c49_4n : ¬ 60 ≤ k := fun h9 => c49_4 ((nI_leI (a := 60) (b := k) (by omega) (by omega)).mpr h9)
                have c49_4m : k < 60 := by omega
                refine j_aload_n (pc := 52) hX dX9_record_52 0 rfl ?_
                refine j_get (ci := 9) (pc := 53) hX inG9 rfl 1 (by decide) mw625 0 rfl rfl dX9_record_53 ?_
                refine j_aload_n (pc := 56) hX dX9_record_56 0 rfl ?_
                refine j_get (ci := 9) (pc := 57) hX inG9 rfl 2 (by decide) mw626 0 rfl rfl dX9_record_57 ?_
                refine j_bipush (v := 60) (pc := 60) hX dX9_record_60 (by decide) ?_
                refine j_imul (pc := 62) hX dX9_record_62 ?_
                refine j_top (b := 300) (by decide) ?_
                refine j_iload_n (pc := 63) hX dX9_record_63 1 rfl ?_
                refine j_iadd (pc := 64) hX dX9_record_64 ?_
                refine j_top (b := nI (300 + k)) (nI_add 300 k) ?_
                refine j_aload_n (pc := 65) hX dX9_record_65 0 rfl ?_
                refine j_get (ci := 9) (pc := 66) hX inG9 rfl 0 (by decide) mw624 0 rfl rfl dX9_record_66 ?_
                refine j_iload_n (pc := 69) hX dX9_record_69 1 rfl ?_
                refine j_iald (pc := 70) hX 1 rfl k rfl (by omega) (by omega) dX9_record_70 ?_
                refine j_iast (pc := 71) hX 2 rfl (300 + k) rfl (by omega) (by omega) dX9_record_71 ?_
                refine j_ws (ws2 := [(m, .inr (9, [.ref a0, .ref a1, .int 5, .ref a3, .ref a4, .ref a5, .int (nI sg), .ref a7, .ref a8, .int (nI mn), .ref a10, .ref a11, .int (nI ti), .int dr, .int (nI rd), .int op])), (a0, .inl (gI g, 60, .inl (nowF v))), (a1, .inl (gI g, 360, .inl (upd (S_cpo (S_shf (hisF w) 300) (nowF v) 300 k) (300 + k) ((nowF v) k))))]) rfl ?_
                refine j_iinc (v := nI (k + 1)) (lv2 := [(0, .ref m), (1, .int (nI (k + 1)))]) (pc := 72) hX dX9_record_72 1 rfl (nI_add k 1) [1, 0] (by decide) rfl ?_
                refine j_goto (tgt := 46) (pc := 75) hX dX9_record_75 (by decide) ?_
                exact j_eq (lv2 := [(0, .ref m), (1, .int (nI (k + 1)))]) (ws2 := [(m, .inr (9, [.ref a0, .ref a1, .int 5, .ref a3, .ref a4, .ref a5, .int (nI sg), .ref a7, .ref a8, .int (nI mn), .ref a10, .ref a11, .int (nI ti), .int dr, .int (nI rd), .int op])), (a0, .inl (gI g, 60, .inl (nowF v))), (a1, .inl (gI g, 360, .inl (S_cpo (S_shf (hisF w) 300) (nowF v) 300 (k + 1))))]) (by first | rfl | rw [← S_cpo_s]) (by first | rfl | rw [← S_cpo_s]) (ih46 _ (by omega) (k + 1) (by omega) rfl)
          exact j_eq (lv2 := [(0, .ref m), (1, .int (nI 0))]) (ws2 := [(m, .inr (9, [.ref a0, .ref a1, .int 5, .ref a3, .ref a4, .ref a5, .int (nI sg), .ref a7, .ref a8, .int (nI mn), .ref a10, .ref a11, .int (nI ti), .int dr, .int (nI rd), .int op])), (a0, .inl (gI g, 60, .inl (nowF v))), (a1, .inl (gI g, 360, .inl (S_cpo (S_shf (hisF w) 300) (nowF v) 300 0)))]) (by first | rfl | rw [S_cpo_0]) (by first | rfl | rw [S_cpo_0]) (L46 _ 0 (by omega) rfl)
        · skip
          have c15_3n : ¬ 300 ≤ k := fun h9 => c15_3 ((nI_leI (a := 300) (b := k) (by omega) (by omega)).mpr h9)
          have c15_3m : k < 300 := by omega
          refine j_aload_n (pc := 18) hX dX9_record_18 0 rfl ?_
          refine j_get (ci := 9) (pc := 19) hX inG9 rfl 1 (by decide) mw625 0 rfl rfl dX9_record_19 ?_
          refine j_iload_n (pc := 22) hX dX9_record_22 1 rfl ?_
          refine j_aload_n (pc := 23) hX dX9_record_23 0 rfl ?_
          refine j_get (ci := 9) (pc := 24) hX inG9 rfl 1 (by decide) mw625 0 rfl rfl dX9_record_24 ?_
          refine j_iload_n (pc := 27) hX dX9_record_27 1 rfl ?_
          refine j_bipush (v := 60) (pc := 28) hX dX9_record_28 (by decide) ?_
          refine j_iadd (pc := 30) hX dX9_record_30 ?_
          refine j_top (b := nI (k + 60)) (nI_add k 60) ?_
          refine j_iald (pc := 31) hX 2 rfl (k + 60) rfl (by omega) (by omega) dX9_record_31 ?_
          refine j_top (b := hisF w (k + 60)) (S_shf_at _ _) ?_
          refine j_iast (pc := 32) hX 2 rfl k rfl (by omega) (by omega) dX9_record_32 ?_
          refine j_ws (ws2 := [(m, .inr (9, [.ref a0, .ref a1, .int (nI un), .ref a3, .ref a4, .ref a5, .int (nI sg), .ref a7, .ref a8, .int (nI mn), .ref a10, .ref a11, .int (nI ti), .int dr, .int (nI rd), .int op])), (a0, .inl (gI g, 60, .inl (nowF v))), (a1, .inl (gI g, 360, .inl (upd (S_shf (hisF w) k) k (hisF w (k + 60)))))]) rfl ?_
          refine j_iinc (v := nI (k + 1)) (lv2 := [(0, .ref m), (1, .int (nI (k + 1)))]) (pc := 33) hX dX9_record_33 1 rfl (nI_add k 1) [1, 0] (by decide) rfl ?_
          refine j_goto (tgt := 11) (pc := 36) hX dX9_record_36 (by decide) ?_
          exact j_eq (lv2 := [(0, .ref m), (1, .int (nI (k + 1)))]) (ws2 := [(m, .inr (9, [.ref a0, .ref a1, .int (nI un), .ref a3, .ref a4, .ref a5, .int (nI sg), .ref a7, .ref a8, .int (nI mn), .ref a10, .ref a11, .int (nI ti), .int dr, .int (nI rd), .int op])), (a0, .inl (gI g, 60, .inl (nowF v))), (a1, .inl (gI g, 360, .inl (S_shf (hisF w) (k + 1))))]) (by first | rfl | rw [← S_shf_s]) (by first | rfl | rw [← S_shf_s]) (ih11 _ (by omega) (k + 1) (by omega) rfl)
    exact j_eq (lv2 := [(0, .ref m), (1, .int (nI 0))]) (ws2 := [(m, .inr (9, [.ref a0, .ref a1, .int (nI un), .ref a3, .ref a4, .ref a5, .int (nI sg), .ref a7, .ref a8, .int (nI mn), .ref a10, .ref a11, .int (nI ti), .int dr, .int (nI rd), .int op])), (a0, .inl (gI g, 60, .inl (nowF v))), (a1, .inl (gI g, 360, .inl (S_shf (hisF w) 0)))]) (by first | rfl | rw [S_shf_0]) (by first | rfl | rw [S_shf_0]) (L11 _ 0 (by omega) rfl)


set_option maxHeartbeats 4000000 in
set_option maxRecDepth 100000 in
theorem c_X9_make (g : jG) (m : Nat) (a0 : Nat) (a1 : Nat) (a3 : Nat) (a4 : Nat) (a5 : Nat) (a7 : Nat) (a8 : Nat) (a10 : Nat) (a11 : Nat) (un : Nat) (sg : Nat) (mn : Nat) (ti : Nat) (dr : Int32) (rd : Nat) (op : Int32) (v : StT) (x0 : Int32) (y0 : Int32) (hv : v.2.1 < 14) : jMV g yX9_make cX9_make 4 0 0 0 0 [.ref m, .int x0, .int y0] [(m, .inr (9, [.ref a0, .ref a1, .int (nI un), .ref a3, .ref a4, .ref a5, .int (nI sg), .ref a7, .ref a8, .int (nI mn), .ref a10, .ref a11, .int (nI ti), .int dr, .int (nI rd), .int op])), (a0, .inl (gI g, 60, .inl (nowF v)))] (fun wz wzn => wz = [(m, .inr (9, [.ref a0, .ref a1, .int (nI un), .ref a3, .ref a4, .ref a5, .int (nI sg), .ref a7, .ref a8, .int (nI mn), .ref a10, .ref a11, .int (nI ti), .int dr, .int (nI rd), .int op])), (a0, .inl (gI g, 60, .inl (nowF (vSet v x0 y0))))] ∧ wzn = []) := by
  refine jMV.intro (by decide +kernel) (Nat.le_of_ble_eq_true rfl) (fun x hX hQ hN => ?_)
  refine j_lv (lv2 := [(0, .ref m), (1, .int x0), (2, .int y0)]) rfl ?_
  refine j_bipush (v := 10) (pc := 0) hX dX9_make_0 (by decide) ?_
  refine j_iconst (v := 3) (pc := 2) hX dX9_make_2 (by decide) ?_
  refine j_aload_n (pc := 3) hX dX9_make_3 0 rfl ?_
  refine j_get (ci := 9) (pc := 4) hX inG9 rfl 0 (by decide) mw624 0 rfl rfl dX9_make_4 ?_
  refine j_iconst (v := 0) (pc := 7) hX dX9_make_7 (by decide) ?_
  refine j_iald (pc := 8) hX 1 rfl 0 rfl (by omega) (by omega) dX9_make_8 ?_
  refine j_top (b := nI v.2.1) (rfl) ?_
  refine j_imul (pc := 9) hX dX9_make_9 ?_
  refine j_top (b := nI (3 * v.2.1)) (pk_mul 3 v.2.1) ?_
  refine j_iadd (pc := 10) hX dX9_make_10 ?_
  refine j_top (b := nI (10 + (3 * v.2.1))) (nI_add 10 (3 * v.2.1)) ?_
  refine j_istore_n (lv2 := [(0, .ref m), (1, .int x0), (2, .int y0), (3, .int (nI (10 + (3 * v.2.1))))]) (pc := 11) hX dX9_make_11 [1, 2, 3, 0] (by decide) rfl ?_
  refine j_aload_n (pc := 12) hX dX9_make_12 0 rfl ?_
  refine j_get (ci := 9) (pc := 13) hX inG9 rfl 0 (by decide) mw624 0 rfl rfl dX9_make_13 ?_
  refine j_iload_n (pc := 16) hX dX9_make_16 3 rfl ?_
  refine j_iload_n (pc := 17) hX dX9_make_17 1 rfl ?_
  refine j_iast (pc := 18) hX 1 rfl (10 + (3 * v.2.1)) rfl (by omega) (by omega) dX9_make_18 ?_
  refine j_ws (ws2 := [(m, .inr (9, [.ref a0, .ref a1, .int (nI un), .ref a3, .ref a4, .ref a5, .int (nI sg), .ref a7, .ref a8, .int (nI mn), .ref a10, .ref a11, .int (nI ti), .int dr, .int (nI rd), .int op])), (a0, .inl (gI g, 60, .inl (nowF (v.1, v.2.1, upd v.2.2.1 v.2.1 x0, v.2.2.2.1, v.2.2.2.2))))]) (by first | (rw [nowF_uT]; done) | (rw [nowF_uT]; rfl)) ?_
  refine j_aload_n (pc := 19) hX dX9_make_19 0 rfl ?_
  refine j_get (ci := 9) (pc := 20) hX inG9 rfl 0 (by decide) mw624 0 rfl rfl dX9_make_20 ?_
  refine j_iload_n (pc := 23) hX dX9_make_23 3 rfl ?_
  refine j_iconst (v := 1) (pc := 24) hX dX9_make_24 (by decide) ?_
  refine j_iadd (pc := 25) hX dX9_make_25 ?_
  refine j_top (b := nI ((10 + (3 * v.2.1)) + 1)) (nI_add (10 + (3 * v.2.1)) 1) ?_
  refine j_iload_n (pc := 26) hX dX9_make_26 2 rfl ?_
  refine j_iast (pc := 27) hX 1 rfl ((10 + (3 * v.2.1)) + 1) rfl (by omega) (by omega) dX9_make_27 ?_
  refine j_ws (ws2 := [(m, .inr (9, [.ref a0, .ref a1, .int (nI un), .ref a3, .ref a4, .ref a5, .int (nI sg), .ref a7, .ref a8, .int (nI mn), .ref a10, .ref a11, .int (nI ti), .int dr, .int (nI rd), .int op])), (a0, .inl (gI g, 60, .inl (nowF (v.1, v.2.1, upd v.2.2.1 v.2.1 x0, upd v.2.2.2.1 v.2.1 y0, v.2.2.2.2))))]) (by first | (rw [nowF_uP]; done) | (rw [nowF_uP]; rfl)) ?_
  refine j_aload_n (pc := 28) hX dX9_make_28 0 rfl ?_
  refine j_get (ci := 9) (pc := 29) hX inG9 rfl 0 (by decide) mw624 0 rfl rfl dX9_make_29 ?_
  refine j_iload_n (pc := 32) hX dX9_make_32 3 rfl ?_
  refine j_iconst (v := 2) (pc := 33) hX dX9_make_33 (by decide) ?_
  refine j_iadd (pc := 34) hX dX9_make_34 ?_
  refine j_top (b := nI ((10 + (3 * v.2.1)) + 2)) (nI_add (10 + (3 * v.2.1)) 2) ?_
  refine j_iconst (v := 0) (pc := 35) hX dX9_make_35 (by decide) ?_
  refine j_iast (pc := 36) hX 1 rfl ((10 + (3 * v.2.1)) + 2) rfl (by omega) (by omega) dX9_make_36 ?_
  refine j_ws (ws2 := [(m, .inr (9, [.ref a0, .ref a1, .int (nI un), .ref a3, .ref a4, .ref a5, .int (nI sg), .ref a7, .ref a8, .int (nI mn), .ref a10, .ref a11, .int (nI ti), .int dr, .int (nI rd), .int op])), (a0, .inl (gI g, 60, .inl (nowF (v.1, v.2.1, upd v.2.2.1 v.2.1 x0, upd v.2.2.2.1 v.2.1 y0, upd v.2.2.2.2 v.2.1 0))))]) (by first | (rw [nowF_uM]; done) | (rw [nowF_uM]; rfl)) ?_
  refine j_aload_n (pc := 37) hX dX9_make_37 0 rfl ?_
  refine j_get (ci := 9) (pc := 38) hX inG9 rfl 0 (by decide) mw624 0 rfl rfl dX9_make_38 ?_
  refine j_iconst (v := 0) (pc := 41) hX dX9_make_41 (by decide) ?_
  refine j_dup2 (pc := 42) hX dX9_make_42 rfl rfl ?_
  refine j_iald (pc := 43) hX 1 rfl 0 rfl (by omega) (by omega) dX9_make_43 ?_
  refine j_top (b := nI v.2.1) (rfl) ?_
  refine j_iconst (v := 1) (pc := 44) hX dX9_make_44 (by decide) ?_
  refine j_iadd (pc := 45) hX dX9_make_45 ?_
  refine j_top (b := nI (v.2.1 + 1)) (nI_add v.2.1 1) ?_
  refine j_iast (pc := 46) hX 1 rfl 0 rfl (by omega) (by omega) dX9_make_46 ?_
  refine j_ws (ws2 := [(m, .inr (9, [.ref a0, .ref a1, .int (nI un), .ref a3, .ref a4, .ref a5, .int (nI sg), .ref a7, .ref a8, .int (nI mn), .ref a10, .ref a11, .int (nI ti), .int dr, .int (nI rd), .int op])), (a0, .inl (gI g, 60, .inl (nowF (v.1, v.2.1 + 1, upd v.2.2.1 v.2.1 x0, upd v.2.2.2.1 v.2.1 y0, upd v.2.2.2.2 v.2.1 0))))]) (by first | (rw [nowF_u0]; done) | (rw [nowF_u0]; rfl)) ?_
  exact j_vret (pc := 47) hX hQ dX9_make_47 [(m, .inr (9, [.ref a0, .ref a1, .int (nI un), .ref a3, .ref a4, .ref a5, .int (nI sg), .ref a7, .ref a8, .int (nI mn), .ref a10, .ref a11, .int (nI ti), .int dr, .int (nI rd), .int op])), (a0, .inl (gI g, 60, .inl (nowF (v.1, v.2.1 + 1, upd v.2.2.1 v.2.1 x0, upd v.2.2.2.1 v.2.1 y0, upd v.2.2.2.2 v.2.1 0))))] [] rfl rfl ⟨(by first | rfl | first | (simp only [jb_t, jb_f, reduceIte, eq_self, decide_true, decide_false, Bool.and_true, Bool.true_and, Bool.and_false, Bool.false_and, Bool.and_self, not_true_eq_false, not_false_eq_true, and_true, true_and, and_false, false_and, and_self]; done) | (simp [jb_t, jb_f]; done)), (rfl)⟩

set_option maxHeartbeats 4000000 in
set_option maxRecDepth 100000 in
theorem c_X9_need (g : jG) (m : Nat) (a0 : Nat) (a1 : Nat) (a3 : Nat) (a4 : Nat) (a5 : Nat) (a7 : Nat) (a8 : Nat) (a10 : Nat) (a11 : Nat) (un : Nat) (sg : Nat) (mn : Nat) (ti : Nat) (dr : Int32) (rd : Nat) (op : Int32) (v : StT) (w : Nat → StT) (i0 : Int32) (hv : v.2.1 ≤ 14) (hu : un ≤ 6) : jMI g yX9_need cX9_need 3 .int 1 22 [.ref m, .int i0] [(m, .inr (9, [.ref a0, .ref a1, .int (nI un), .ref a3, .ref a4, .ref a5, .int (nI sg), .ref a7, .ref a8, .int (nI mn), .ref a10, .ref a11, .int (nI ti), .int dr, .int (nI rd), .int op])), (a0, .inl (gI g, 60, .inl (nowF v))), (a1, .inl (gI g, 360, .inl (hisF w)))] (fun rz wz => rz = rNeed v i0 ∧ wz = [(m, .inr (9, [.ref a0, .ref a1, .int (nI (mC (okNeed i0) un)), .ref a3, .ref a4, .ref a5, .int (nI sg), .ref a7, .ref a8, .int (nI mn), .ref a10, .ref a11, .int (nI ti), .int dr, .int (nI rd), .int op])), (a0, .inl (gI g, 60, .inl (nowF (mV (okNeed i0) v (vNeed v i0))))), (a1, .inl (gI g, 360, .inl (hisF (mW (okNeed i0) w un v))))]) := by
  refine jMI.intro (by decide +kernel) (Nat.le_of_ble_eq_true rfl) (fun x hX hQ => ?_)
  refine j_lv (lv2 := [(0, .ref m), (1, .int i0)]) rfl ?_
  refine j_iload_n (pc := 0) hX dX9_need_0 1 rfl ?_
  refine j_iconst (v := 0) (pc := 1) hX dX9_need_1 (by decide) ?_
  refine j_ldc (v := 262143) (pc := 2) hX mw660 dX9_need_2 ?_
  refine j_callSI (n := 3) (As := [.int i0, .int 0, .int 262143]) (rest := []) (pc := 4) hX (c_X9_in g i0 0 262143 ) (CS.of mw661 mw662 mw52 mw663 ⟨by decide +kernel, by decide +kernel, by decide +kernel⟩) (Nat.le_of_ble_eq_true rfl) (Nat.le_of_ble_eq_true rfl) (Nat.le_of_ble_eq_true rfl) (Nat.le_of_ble_eq_true rfl) [] (by decide +kernel) rfl rfl rfl (Nat.le_of_ble_eq_true rfl) dX9_need_4 (fun r1 wz hq2 => ?_)
  obtain ⟨rfl, rfl⟩ := hq2
  refine j_ws (ws2 := [(m, .inr (9, [.ref a0, .ref a1, .int (nI un), .ref a3, .ref a4, .ref a5, .int (nI sg), .ref a7, .ref a8, .int (nI mn), .ref a10, .ref a11, .int (nI ti), .int dr, .int (nI rd), .int op])), (a0, .inl (gI g, 60, .inl (nowF v))), (a1, .inl (gI g, 360, .inl (hisF w)))]) rfl ?_
  refine j_top (b := jb (okNeed i0)) (by rw [in_need]) ?_
  refine j_if_ne (tgt := 13) (pc := 7) hX dX9_need_7 (by decide) (fun c7_3 => ?_) (fun c7_3 => ?_)
  · skip
    have c7_3b : (okNeed i0) = true := jb_1.mp c7_3
    refine j_aload_n (pc := 13) hX dX9_need_13 0 rfl ?_
    refine j_callVV (n := 0) (As := []) (rest := []) (pc := 14) hX (c_X9_record g m a0 a1 a3 a4 a5 a7 a8 a10 a11 un sg mn ti dr rd op v w (by first | assumption | omega) (by first | assumption | omega)) (CV.of mw664 mw665 mw19 mw52 mw666 ⟨rfl, by decide +kernel, by decide +kernel, by decide +kernel⟩ (T := TX9) (N := 16) rfl) (Nat.le_of_ble_eq_true rfl) (Nat.le_of_ble_eq_true rfl) (Nat.le_of_ble_eq_true rfl) (Nat.le_of_ble_eq_true rfl) 0 rfl [0, 1, 2] (by decide +kernel) rfl rfl rfl (Nat.le_of_ble_eq_true rfl) dX9_need_14 (fun wz wnz hq5 => ?_)
    obtain ⟨rfl, rfl⟩ := hq5
    refine j_ws (ws2 := [(m, .inr (9, [.ref a0, .ref a1, .int (nI (hC un)), .ref a3, .ref a4, .ref a5, .int (nI sg), .ref a7, .ref a8, .int (nI mn), .ref a10, .ref a11, .int (nI ti), .int dr, .int (nI rd), .int op])), (a0, .inl (gI g, 60, .inl (nowF v))), (a1, .inl (gI g, 360, .inl (hisF (rW w un v))))]) rfl ?_
    refine j_aload_n (pc := 17) hX dX9_need_17 0 rfl ?_
    refine j_get (ci := 9) (pc := 18) hX inG9 rfl 0 (by decide) mw624 0 rfl rfl dX9_need_18 ?_
    refine j_iconst (v := 1) (pc := 21) hX dX9_need_21 (by decide) ?_
    refine j_iald (pc := 22) hX 1 rfl 1 rfl (by omega) (by omega) dX9_need_22 ?_
    refine j_top (b := v.1) (rfl) ?_
    refine j_istore_n (lv2 := [(0, .ref m), (1, .int i0), (2, .int v.1)]) (pc := 23) hX dX9_need_23 [1, 2, 0] (by decide) rfl ?_
    refine j_aload_n (pc := 24) hX dX9_need_24 0 rfl ?_
    refine j_get (ci := 9) (pc := 25) hX inG9 rfl 0 (by decide) mw624 0 rfl rfl dX9_need_25 ?_
    refine j_iconst (v := 1) (pc := 28) hX dX9_need_28 (by decide) ?_
    refine j_iload_n (pc := 29) hX dX9_need_29 1 rfl ?_
    refine j_iast (pc := 30) hX 1 rfl 1 rfl (by omega) (by omega) dX9_need_30 ?_
    refine j_ws (ws2 := [(m, .inr (9, [.ref a0, .ref a1, .int (nI (hC un)), .ref a3, .ref a4, .ref a5, .int (nI sg), .ref a7, .ref a8, .int (nI mn), .ref a10, .ref a11, .int (nI ti), .int dr, .int (nI rd), .int op])), (a0, .inl (gI g, 60, .inl (nowF (i0, v.2.1, v.2.2.1, v.2.2.2.1, v.2.2.2.2)))), (a1, .inl (gI g, 360, .inl (hisF (rW w un v))))]) (by first | (rw [nowF_u1]; done) | (rw [nowF_u1]; rfl)) ?_
    refine j_iload_n (pc := 31) hX dX9_need_31 2 rfl ?_
    exact j_iret (pc := 32) hX hQ dX9_need_32 rfl ⟨(by first | rfl | first | (simp only [jb_t, jb_f, rNeed, c7_3, c7_3b, reduceIte, eq_self, decide_true, decide_false, Bool.and_true, Bool.true_and, Bool.and_false, Bool.false_and, Bool.and_self, not_true_eq_false, not_false_eq_true, and_true, true_and, and_false, false_and, and_self]; done) | (simp [jb_t, jb_f, rNeed, c7_3, c7_3b]; done)), (by rw [show okNeed i0 = true from by first | rfl | first | (simp only [jb_t, jb_f, c7_3, c7_3b, reduceIte, eq_self, decide_true, decide_false, Bool.and_true, Bool.true_and, Bool.and_false, Bool.false_and, Bool.and_self, not_true_eq_false, not_false_eq_true, and_true, true_and, and_false, false_and, and_self]; done) | (simp [jb_t, jb_f, c7_3, c7_3b]; done)]; first | rfl | (simp only [vNeed]; rfl) | (simp only [vNeed, mC, mO, mU, mV]))⟩
  · skip
    have c7_3b : (okNeed i0) = false := jb_0.mp c7_3
    refine j_bipush (v := (-2)) (pc := 10) hX dX9_need_10 (by decide) ?_
    exact j_iret (pc := 12) hX hQ dX9_need_12 rfl ⟨(by first | rfl | first | (simp only [jb_t, jb_f, rNeed, c7_3, c7_3b, reduceIte, eq_self, decide_true, decide_false, Bool.and_true, Bool.true_and, Bool.and_false, Bool.false_and, Bool.and_self, not_true_eq_false, not_false_eq_true, and_true, true_and, and_false, false_and, and_self]; done) | (simp [jb_t, jb_f, rNeed, c7_3, c7_3b]; done)), (by rw [show okNeed i0 = false from by first | rfl | first | (simp only [jb_t, jb_f, c7_3, c7_3b, reduceIte, eq_self, decide_true, decide_false, Bool.and_true, Bool.true_and, Bool.and_false, Bool.false_and, Bool.and_self, not_true_eq_false, not_false_eq_true, and_true, true_and, and_false, false_and, and_self]; done) | (simp [jb_t, jb_f, c7_3, c7_3b]; done)]; rfl)⟩

set_option maxHeartbeats 4000000 in
set_option maxRecDepth 100000 in
theorem c_X9_set (g : jG) (m : Nat) (a0 : Nat) (a1 : Nat) (a3 : Nat) (a4 : Nat) (a5 : Nat) (a7 : Nat) (a8 : Nat) (a10 : Nat) (a11 : Nat) (un : Nat) (sg : Nat) (mn : Nat) (ti : Nat) (dr : Int32) (rd : Nat) (op : Int32) (v : StT) (w : Nat → StT) (i0 : Int32) (p0 : Int32) (hv : v.2.1 ≤ 14) (hu : un ≤ 6) : jMI g yX9_set cX9_set 3 .int 1 23 [.ref m, .int i0, .int p0] [(m, .inr (9, [.ref a0, .ref a1, .int (nI un), .ref a3, .ref a4, .ref a5, .int (nI sg), .ref a7, .ref a8, .int (nI mn), .ref a10, .ref a11, .int (nI ti), .int dr, .int (nI rd), .int op])), (a0, .inl (gI g, 60, .inl (nowF v))), (a1, .inl (gI g, 360, .inl (hisF w)))] (fun rz wz => rz = rSet v i0 p0 ∧ wz = [(m, .inr (9, [.ref a0, .ref a1, .int (nI (mC (okSet v i0 p0) un)), .ref a3, .ref a4, .ref a5, .int (nI sg), .ref a7, .ref a8, .int (nI mn), .ref a10, .ref a11, .int (nI ti), .int dr, .int (nI rd), .int op])), (a0, .inl (gI g, 60, .inl (nowF (mV (okSet v i0 p0) v (vSet v i0 p0))))), (a1, .inl (gI g, 360, .inl (hisF (mW (okSet v i0 p0) w un v))))]) := by
  refine jMI.intro (by decide +kernel) (Nat.le_of_ble_eq_true rfl) (fun x hX hQ => ?_)
  refine j_lv (lv2 := [(0, .ref m), (1, .int i0), (2, .int p0)]) rfl ?_
  refine j_iload_n (pc := 0) hX dX9_set_0 1 rfl ?_
  refine j_iconst (v := 1) (pc := 1) hX dX9_set_1 (by decide) ?_
  refine j_ldc (v := 262143) (pc := 2) hX mw660 dX9_set_2 ?_
  refine j_callSI (n := 3) (As := [.int i0, .int 1, .int 262143]) (rest := []) (pc := 4) hX (c_X9_in g i0 1 262143 ) (CS.of mw661 mw662 mw52 mw663 ⟨by decide +kernel, by decide +kernel, by decide +kernel⟩) (Nat.le_of_ble_eq_true rfl) (Nat.le_of_ble_eq_true rfl) (Nat.le_of_ble_eq_true rfl) (Nat.le_of_ble_eq_true rfl) [] (by decide +kernel) rfl rfl rfl (Nat.le_of_ble_eq_true rfl) dX9_set_4 (fun r1 wz hq2 => ?_)
  obtain ⟨rfl, rfl⟩ := hq2
  refine j_ws (ws2 := [(m, .inr (9, [.ref a0, .ref a1, .int (nI un), .ref a3, .ref a4, .ref a5, .int (nI sg), .ref a7, .ref a8, .int (nI mn), .ref a10, .ref a11, .int (nI ti), .int dr, .int (nI rd), .int op])), (a0, .inl (gI g, 60, .inl (nowF v))), (a1, .inl (gI g, 360, .inl (hisF w)))]) rfl ?_
  refine j_top (b := jb (S_things i0)) (rfl) ?_
  refine j_if_eq (tgt := 21) (pc := 7) hX dX9_set_7 (by decide) (fun c7_3 => ?_) (fun c7_3 => ?_)
  · skip
    have c7_3b : (S_things i0) = false := jb_0.mp c7_3
    refine j_bipush (v := (-2)) (pc := 21) hX dX9_set_21 (by decide) ?_
    exact j_iret (pc := 23) hX hQ dX9_set_23 rfl ⟨(by first | rfl | first | (simp only [jb_t, jb_f, rSet, c7_3, c7_3b, reduceIte, eq_self, decide_true, decide_false, Bool.and_true, Bool.true_and, Bool.and_false, Bool.false_and, Bool.and_self, not_true_eq_false, not_false_eq_true, and_true, true_and, and_false, false_and, and_self]; done) | (simp [jb_t, jb_f, rSet, c7_3, c7_3b]; done)), (by rw [show okSet v i0 p0 = false from by first | rfl | first | (simp only [jb_t, jb_f, okSet, c7_3, c7_3b, reduceIte, eq_self, decide_true, decide_false, Bool.and_true, Bool.true_and, Bool.and_false, Bool.false_and, Bool.and_self, not_true_eq_false, not_false_eq_true, and_true, true_and, and_false, false_and, and_self]; done) | (simp [jb_t, jb_f, okSet, c7_3, c7_3b]; done)]; rfl)⟩
  · skip
    have c7_3b : (S_things i0) = true := jb_1.mp c7_3
    refine j_iload_n (pc := 10) hX dX9_set_10 2 rfl ?_
    refine j_iconst (v := 1) (pc := 11) hX dX9_set_11 (by decide) ?_
    refine j_sipush (v := 500) (pc := 12) hX dX9_set_12 (by decide) ?_
    refine j_callSI (n := 3) (As := [.int p0, .int 1, .int 500]) (rest := []) (pc := 15) hX (c_X9_in g p0 1 500 ) (CS.of mw661 mw662 mw52 mw663 ⟨by decide +kernel, by decide +kernel, by decide +kernel⟩) (Nat.le_of_ble_eq_true rfl) (Nat.le_of_ble_eq_true rfl) (Nat.le_of_ble_eq_true rfl) (Nat.le_of_ble_eq_true rfl) [] (by decide +kernel) rfl rfl rfl (Nat.le_of_ble_eq_true rfl) dX9_set_15 (fun r4 wz hq5 => ?_)
    obtain ⟨rfl, rfl⟩ := hq5
    refine j_ws (ws2 := [(m, .inr (9, [.ref a0, .ref a1, .int (nI un), .ref a3, .ref a4, .ref a5, .int (nI sg), .ref a7, .ref a8, .int (nI mn), .ref a10, .ref a11, .int (nI ti), .int dr, .int (nI rd), .int op])), (a0, .inl (gI g, 60, .inl (nowF v))), (a1, .inl (gI g, 360, .inl (hisF w)))]) rfl ?_
    refine j_top (b := jb (S_price p0)) (rfl) ?_
    refine j_if_ne (tgt := 24) (pc := 18) hX dX9_set_18 (by decide) (fun c18_6 => ?_) (fun c18_6 => ?_)
    · skip
      have c18_6b : (S_price p0) = true := jb_1.mp c18_6
      refine j_aload_n (pc := 24) hX dX9_set_24 0 rfl ?_
      refine j_get (ci := 9) (pc := 25) hX inG9 rfl 0 (by decide) mw624 0 rfl rfl dX9_set_25 ?_
      refine j_iconst (v := 0) (pc := 28) hX dX9_set_28 (by decide) ?_
      refine j_iald (pc := 29) hX 1 rfl 0 rfl (by omega) (by omega) dX9_set_29 ?_
      refine j_top (b := nI v.2.1) (rfl) ?_
      refine j_bipush (v := 14) (pc := 30) hX dX9_set_30 (by decide) ?_
      refine j_icmp_ne (tgt := 38) (pc := 32) hX dX9_set_32 (by decide) (fun c32_7 => ?_) (fun c32_7 => ?_)
      · skip
        have c32_7n : ¬ v.2.1 = 14 := fun h9 => c32_7 ((nI_eq (a := v.2.1) (b := 14) (by omega) (by omega)).mpr h9)
        have h14 : v.2.1 < 14 := by omega
        refine j_aload_n (pc := 38) hX dX9_set_38 0 rfl ?_
        refine j_callVV (n := 0) (As := []) (rest := []) (pc := 39) hX (c_X9_record g m a0 a1 a3 a4 a5 a7 a8 a10 a11 un sg mn ti dr rd op v w (by first | assumption | omega) (by first | assumption | omega)) (CV.of mw664 mw665 mw19 mw52 mw666 ⟨rfl, by decide +kernel, by decide +kernel, by decide +kernel⟩ (T := TX9) (N := 16) rfl) (Nat.le_of_ble_eq_true rfl) (Nat.le_of_ble_eq_true rfl) (Nat.le_of_ble_eq_true rfl) (Nat.le_of_ble_eq_true rfl) 0 rfl [0, 1, 2] (by decide +kernel) rfl rfl rfl (Nat.le_of_ble_eq_true rfl) dX9_set_39 (fun wz wnz hq9 => ?_)
        obtain ⟨rfl, rfl⟩ := hq9
        refine j_ws (ws2 := [(m, .inr (9, [.ref a0, .ref a1, .int (nI (hC un)), .ref a3, .ref a4, .ref a5, .int (nI sg), .ref a7, .ref a8, .int (nI mn), .ref a10, .ref a11, .int (nI ti), .int dr, .int (nI rd), .int op])), (a0, .inl (gI g, 60, .inl (nowF v))), (a1, .inl (gI g, 360, .inl (hisF (rW w un v))))]) rfl ?_
        refine j_aload_n (pc := 42) hX dX9_set_42 0 rfl ?_
        refine j_iload_n (pc := 43) hX dX9_set_43 1 rfl ?_
        refine j_iload_n (pc := 44) hX dX9_set_44 2 rfl ?_
        refine j_callVV (n := 2) (As := [.int i0, .int p0]) (rest := []) (pc := 45) hX (c_X9_make g m a0 a1 a3 a4 a5 a7 a8 a10 a11 (hC un) sg mn ti dr rd op v i0 p0 (by first | assumption | omega)) (CV.of mw671 mw672 mw20 mw52 mw673 ⟨rfl, by decide +kernel, by decide +kernel, by decide +kernel⟩ (T := TX9) (N := 16) rfl) (Nat.le_of_ble_eq_true rfl) (Nat.le_of_ble_eq_true rfl) (Nat.le_of_ble_eq_true rfl) (Nat.le_of_ble_eq_true rfl) 0 rfl [0, 1] (by decide +kernel) rfl rfl rfl (Nat.le_of_ble_eq_true rfl) dX9_set_45 (fun wz wnz hq11 => ?_)
        obtain ⟨rfl, rfl⟩ := hq11
        refine j_ws (ws2 := [(m, .inr (9, [.ref a0, .ref a1, .int (nI (hC un)), .ref a3, .ref a4, .ref a5, .int (nI sg), .ref a7, .ref a8, .int (nI mn), .ref a10, .ref a11, .int (nI ti), .int dr, .int (nI rd), .int op])), (a0, .inl (gI g, 60, .inl (nowF (vSet v i0 p0)))), (a1, .inl (gI g, 360, .inl (hisF (rW w un v))))]) rfl ?_
        refine j_aload_n (pc := 48) hX dX9_set_48 0 rfl ?_
        refine j_get (ci := 9) (pc := 49) hX inG9 rfl 0 (by decide) mw624 0 rfl rfl dX9_set_49 ?_
        refine j_iconst (v := 0) (pc := 52) hX dX9_set_52 (by decide) ?_
        refine j_iald (pc := 53) hX 1 rfl 0 rfl (by omega) (by omega) dX9_set_53 ?_
        refine j_top (b := nI ((vSet v i0 p0).2.1)) (rfl) ?_
        refine j_iconst (v := 1) (pc := 54) hX dX9_set_54 (by decide) ?_
        refine j_isub (pc := 55) hX dX9_set_55 ?_
        refine j_top (b := nI v.2.1) (pk_sub (a := v.2.1 + 1) (b := 1) (by omega)) ?_
        exact j_iret (pc := 56) hX hQ dX9_set_56 rfl ⟨(by first | rfl | first | (simp only [jb_t, jb_f, rSet, c7_3, c7_3b, c18_6, c18_6b, c32_7, c32_7n, h14, reduceIte, eq_self, decide_true, decide_false, Bool.and_true, Bool.true_and, Bool.and_false, Bool.false_and, Bool.and_self, not_true_eq_false, not_false_eq_true, and_true, true_and, and_false, false_and, and_self]; done) | (simp [jb_t, jb_f, rSet, c7_3, c7_3b, c18_6, c18_6b, c32_7, c32_7n, h14]; done)), (by rw [show okSet v i0 p0 = true from by first | rfl | first | (simp only [jb_t, jb_f, okSet, c7_3, c7_3b, c18_6, c18_6b, c32_7, c32_7n, h14, reduceIte, eq_self, decide_true, decide_false, Bool.and_true, Bool.true_and, Bool.and_false, Bool.false_and, Bool.and_self, not_true_eq_false, not_false_eq_true, and_true, true_and, and_false, false_and, and_self]; done) | (simp [jb_t, jb_f, okSet, c7_3, c7_3b, c18_6, c18_6b, c32_7, c32_7n, h14]; done)]; first | rfl | (simp only [vSet]; rfl) | (simp only [vSet, mC, mO, mU, mV]))⟩
      · skip
        have c32_7n : v.2.1 = 14 := (nI_eq (a := v.2.1) (b := 14) (by omega) (by omega)).mp c32_7
        have h14 : ¬ v.2.1 < 14 := by omega
        refine j_bipush (v := (-4)) (pc := 35) hX dX9_set_35 (by decide) ?_
        exact j_iret (pc := 37) hX hQ dX9_set_37 rfl ⟨(by first | rfl | first | (simp only [jb_t, jb_f, rSet, c7_3, c7_3b, c18_6, c18_6b, c32_7, c32_7n, h14, reduceIte, eq_self, decide_true, decide_false, Bool.and_true, Bool.true_and, Bool.and_false, Bool.false_and, Bool.and_self, not_true_eq_false, not_false_eq_true, and_true, true_and, and_false, false_and, and_self]; done) | (simp [jb_t, jb_f, rSet, c7_3, c7_3b, c18_6, c18_6b, c32_7, c32_7n, h14]; done)), (by rw [show okSet v i0 p0 = false from by first | rfl | first | (simp only [jb_t, jb_f, okSet, c7_3, c7_3b, c18_6, c18_6b, c32_7, c32_7n, h14, reduceIte, eq_self, decide_true, decide_false, Bool.and_true, Bool.true_and, Bool.and_false, Bool.false_and, Bool.and_self, not_true_eq_false, not_false_eq_true, and_true, true_and, and_false, false_and, and_self]; done) | (simp [jb_t, jb_f, okSet, c7_3, c7_3b, c18_6, c18_6b, c32_7, c32_7n, h14]; done)]; rfl)⟩
    · skip
      have c18_6b : (S_price p0) = false := jb_0.mp c18_6
      refine j_bipush (v := (-2)) (pc := 21) hX dX9_set_21 (by decide) ?_
      exact j_iret (pc := 23) hX hQ dX9_set_23 rfl ⟨(by first | rfl | first | (simp only [jb_t, jb_f, rSet, c7_3, c7_3b, c18_6, c18_6b, reduceIte, eq_self, decide_true, decide_false, Bool.and_true, Bool.true_and, Bool.and_false, Bool.false_and, Bool.and_self, not_true_eq_false, not_false_eq_true, and_true, true_and, and_false, false_and, and_self]; done) | (simp [jb_t, jb_f, rSet, c7_3, c7_3b, c18_6, c18_6b]; done)), (by rw [show okSet v i0 p0 = false from by first | rfl | first | (simp only [jb_t, jb_f, okSet, c7_3, c7_3b, c18_6, c18_6b, reduceIte, eq_self, decide_true, decide_false, Bool.and_true, Bool.true_and, Bool.and_false, Bool.false_and, Bool.and_self, not_true_eq_false, not_false_eq_true, and_true, true_and, and_false, false_and, and_self]; done) | (simp [jb_t, jb_f, okSet, c7_3, c7_3b, c18_6, c18_6b]; done)]; rfl)⟩

set_option maxHeartbeats 4000000 in
set_option maxRecDepth 100000 in
theorem c_X9_price (g : jG) (m : Nat) (a0 : Nat) (a1 : Nat) (a3 : Nat) (a4 : Nat) (a5 : Nat) (a7 : Nat) (a8 : Nat) (a10 : Nat) (a11 : Nat) (un : Nat) (sg : Nat) (mn : Nat) (ti : Nat) (dr : Int32) (rd : Nat) (op : Int32) (v : StT) (w : Nat → StT) (k : Int32) (p0 : Int32) (hv : v.2.1 ≤ 14) (hu : un ≤ 6) : jMI g yX9_price cX9_price 4 .int 2 43 [.ref m, .int k, .int p0] [(m, .inr (9, [.ref a0, .ref a1, .int (nI un), .ref a3, .ref a4, .ref a5, .int (nI sg), .ref a7, .ref a8, .int (nI mn), .ref a10, .ref a11, .int (nI ti), .int dr, .int (nI rd), .int op])), (a0, .inl (gI g, 60, .inl (nowF v))), (a1, .inl (gI g, 360, .inl (hisF w)))] (fun rz wz => rz = rPrice v k p0 ∧ wz = [(m, .inr (9, [.ref a0, .ref a1, .int (nI (mC (okPrice v k p0) un)), .ref a3, .ref a4, .ref a5, .int (nI sg), .ref a7, .ref a8, .int (nI mn), .ref a10, .ref a11, .int (nI ti), .int dr, .int (nI rd), .int op])), (a0, .inl (gI g, 60, .inl (nowF (mV (okPrice v k p0) v (vPrice v k p0))))), (a1, .inl (gI g, 360, .inl (hisF (mW (okPrice v k p0) w un v))))]) := by
  refine jMI.intro (by decide +kernel) (Nat.le_of_ble_eq_true rfl) (fun x hX hQ => ?_)
  refine j_lv (lv2 := [(0, .ref m), (1, .int k), (2, .int p0)]) rfl ?_
  refine j_aload_n (pc := 0) hX dX9_price_0 0 rfl ?_
  refine j_iload_n (pc := 1) hX dX9_price_1 1 rfl ?_
  refine j_callVI (n := 1) (As := [.int k]) (rest := []) (pc := 2) hX (c_X9_isSet g m a0 a1 a3 a4 a5 a7 a8 a10 a11 un sg mn ti dr rd op v k (by first | assumption | omega)) (CV.of mw678 mw679 mw21 mw52 mw680 ⟨rfl, by decide +kernel, by decide +kernel, by decide +kernel⟩ (T := TX9) (N := 16) rfl) (Nat.le_of_ble_eq_true rfl) (Nat.le_of_ble_eq_true rfl) (Nat.le_of_ble_eq_true rfl) (Nat.le_of_ble_eq_true rfl) 0 rfl [0, 1] (by decide +kernel) rfl rfl rfl (Nat.le_of_ble_eq_true rfl) dX9_price_2 (fun r1 wz hq2 => ?_)
  obtain ⟨rfl, rfl⟩ := hq2
  refine j_ws (ws2 := [(m, .inr (9, [.ref a0, .ref a1, .int (nI un), .ref a3, .ref a4, .ref a5, .int (nI sg), .ref a7, .ref a8, .int (nI mn), .ref a10, .ref a11, .int (nI ti), .int dr, .int (nI rd), .int op])), (a0, .inl (gI g, 60, .inl (nowF v))), (a1, .inl (gI g, 360, .inl (hisF w)))]) rfl ?_
  refine j_if_ne (tgt := 10) (pc := 5) hX dX9_price_5 (by decide) (fun c5_3 => ?_) (fun c5_3 => ?_)
  · skip
    have c5_3b : (S_is v.2.1 k) = true := jb_1.mp c5_3
    obtain ⟨j, hj, rfl⟩ := S_is_t hv c5_3b
    refine j_iload_n (pc := 10) hX dX9_price_10 2 rfl ?_
    refine j_iconst (v := 1) (pc := 11) hX dX9_price_11 (by decide) ?_
    refine j_sipush (v := 500) (pc := 12) hX dX9_price_12 (by decide) ?_
    refine j_callSI (n := 3) (As := [.int p0, .int 1, .int 500]) (rest := []) (pc := 15) hX (c_X9_in g p0 1 500 ) (CS.of mw661 mw662 mw52 mw663 ⟨by decide +kernel, by decide +kernel, by decide +kernel⟩) (Nat.le_of_ble_eq_true rfl) (Nat.le_of_ble_eq_true rfl) (Nat.le_of_ble_eq_true rfl) (Nat.le_of_ble_eq_true rfl) [] (by decide +kernel) rfl rfl rfl (Nat.le_of_ble_eq_true rfl) dX9_price_15 (fun r4 wz hq5 => ?_)
    obtain ⟨rfl, rfl⟩ := hq5
    refine j_ws (ws2 := [(m, .inr (9, [.ref a0, .ref a1, .int (nI un), .ref a3, .ref a4, .ref a5, .int (nI sg), .ref a7, .ref a8, .int (nI mn), .ref a10, .ref a11, .int (nI ti), .int dr, .int (nI rd), .int op])), (a0, .inl (gI g, 60, .inl (nowF v))), (a1, .inl (gI g, 360, .inl (hisF w)))]) rfl ?_
    refine j_top (b := jb (S_price p0)) (rfl) ?_
    refine j_if_ne (tgt := 24) (pc := 18) hX dX9_price_18 (by decide) (fun c18_6 => ?_) (fun c18_6 => ?_)
    · skip
      have c18_6b : (S_price p0) = true := jb_1.mp c18_6
      refine j_aload_n (pc := 24) hX dX9_price_24 0 rfl ?_
      refine j_callVV (n := 0) (As := []) (rest := []) (pc := 25) hX (c_X9_record g m a0 a1 a3 a4 a5 a7 a8 a10 a11 un sg mn ti dr rd op v w (by first | assumption | omega) (by first | assumption | omega)) (CV.of mw664 mw665 mw19 mw52 mw666 ⟨rfl, by decide +kernel, by decide +kernel, by decide +kernel⟩ (T := TX9) (N := 16) rfl) (Nat.le_of_ble_eq_true rfl) (Nat.le_of_ble_eq_true rfl) (Nat.le_of_ble_eq_true rfl) (Nat.le_of_ble_eq_true rfl) 0 rfl [0, 1, 2] (by decide +kernel) rfl rfl rfl (Nat.le_of_ble_eq_true rfl) dX9_price_25 (fun wz wnz hq8 => ?_)
      obtain ⟨rfl, rfl⟩ := hq8
      refine j_ws (ws2 := [(m, .inr (9, [.ref a0, .ref a1, .int (nI (hC un)), .ref a3, .ref a4, .ref a5, .int (nI sg), .ref a7, .ref a8, .int (nI mn), .ref a10, .ref a11, .int (nI ti), .int dr, .int (nI rd), .int op])), (a0, .inl (gI g, 60, .inl (nowF v))), (a1, .inl (gI g, 360, .inl (hisF (rW w un v))))]) rfl ?_
      refine j_aload_n (pc := 28) hX dX9_price_28 0 rfl ?_
      refine j_iload_n (pc := 29) hX dX9_price_29 1 rfl ?_
      refine j_callVI (n := 1) (As := [.int (nI j)]) (rest := []) (pc := 30) hX (c_X9_priceOf g m a0 a1 a3 a4 a5 a7 a8 a10 a11 (hC un) sg mn ti dr rd op v j (by first | assumption | omega)) (CV.of mw681 mw682 mw22 mw52 mw683 ⟨rfl, by decide +kernel, by decide +kernel, by decide +kernel⟩ (T := TX9) (N := 16) rfl) (Nat.le_of_ble_eq_true rfl) (Nat.le_of_ble_eq_true rfl) (Nat.le_of_ble_eq_true rfl) (Nat.le_of_ble_eq_true rfl) 0 rfl [0, 1] (by decide +kernel) rfl rfl rfl (Nat.le_of_ble_eq_true rfl) dX9_price_30 (fun r9 wz hq10 => ?_)
      obtain ⟨rfl, rfl⟩ := hq10
      refine j_ws (ws2 := [(m, .inr (9, [.ref a0, .ref a1, .int (nI (hC un)), .ref a3, .ref a4, .ref a5, .int (nI sg), .ref a7, .ref a8, .int (nI mn), .ref a10, .ref a11, .int (nI ti), .int dr, .int (nI rd), .int op])), (a0, .inl (gI g, 60, .inl (nowF v))), (a1, .inl (gI g, 360, .inl (hisF (rW w un v))))]) rfl ?_
      refine j_istore_n (lv2 := [(0, .ref m), (1, .int (nI j)), (2, .int p0), (3, .int (v.2.2.2.1 j))]) (pc := 33) hX dX9_price_33 [1, 2, 3, 0] (by decide) rfl ?_
      refine j_aload_n (pc := 34) hX dX9_price_34 0 rfl ?_
      refine j_get (ci := 9) (pc := 35) hX inG9 rfl 0 (by decide) mw624 0 rfl rfl dX9_price_35 ?_
      refine j_bipush (v := 10) (pc := 38) hX dX9_price_38 (by decide) ?_
      refine j_iconst (v := 3) (pc := 40) hX dX9_price_40 (by decide) ?_
      refine j_iload_n (pc := 41) hX dX9_price_41 1 rfl ?_
      refine j_imul (pc := 42) hX dX9_price_42 ?_
      refine j_top (b := nI (3 * j)) (pk_mul 3 j) ?_
      refine j_iadd (pc := 43) hX dX9_price_43 ?_
      refine j_top (b := nI (10 + (3 * j))) (nI_add 10 (3 * j)) ?_
      refine j_iconst (v := 1) (pc := 44) hX dX9_price_44 (by decide) ?_
      refine j_iadd (pc := 45) hX dX9_price_45 ?_
      refine j_top (b := nI ((10 + (3 * j)) + 1)) (nI_add (10 + (3 * j)) 1) ?_
      refine j_iload_n (pc := 46) hX dX9_price_46 2 rfl ?_
      refine j_iast (pc := 47) hX 1 rfl ((10 + (3 * j)) + 1) rfl (by omega) (by omega) dX9_price_47 ?_
      refine j_ws (ws2 := [(m, .inr (9, [.ref a0, .ref a1, .int (nI (hC un)), .ref a3, .ref a4, .ref a5, .int (nI sg), .ref a7, .ref a8, .int (nI mn), .ref a10, .ref a11, .int (nI ti), .int dr, .int (nI rd), .int op])), (a0, .inl (gI g, 60, .inl (nowF (v.1, v.2.1, v.2.2.1, upd v.2.2.2.1 j p0, v.2.2.2.2)))), (a1, .inl (gI g, 360, .inl (hisF (rW w un v))))]) (by first | (rw [nowF_uP]; done) | (rw [nowF_uP]; rfl)) ?_
      refine j_iload_n (pc := 48) hX dX9_price_48 3 rfl ?_
      exact j_iret (pc := 49) hX hQ dX9_price_49 rfl ⟨(by first | rfl | first | (simp only [jb_t, jb_f, rPrice, kN_nI (show j < 100 by omega), c5_3, c5_3b, c18_6, c18_6b, reduceIte, eq_self, decide_true, decide_false, Bool.and_true, Bool.true_and, Bool.and_false, Bool.false_and, Bool.and_self, not_true_eq_false, not_false_eq_true, and_true, true_and, and_false, false_and, and_self]; done) | (simp [jb_t, jb_f, rPrice, kN_nI (show j < 100 by omega), c5_3, c5_3b, c18_6, c18_6b]; done)), (by rw [show okPrice v (nI j) p0 = true from by first | rfl | first | (simp only [jb_t, jb_f, okPrice, kN_nI (show j < 100 by omega), c5_3, c5_3b, c18_6, c18_6b, reduceIte, eq_self, decide_true, decide_false, Bool.and_true, Bool.true_and, Bool.and_false, Bool.false_and, Bool.and_self, not_true_eq_false, not_false_eq_true, and_true, true_and, and_false, false_and, and_self]; done) | (simp [jb_t, jb_f, okPrice, kN_nI (show j < 100 by omega), c5_3, c5_3b, c18_6, c18_6b]; done)]; first | rfl | (simp only [vPrice, kN_nI (show j < 100 by omega)]; rfl) | (simp only [vPrice, kN_nI (show j < 100 by omega), mC, mO, mU, mV]))⟩
    · skip
      have c18_6b : (S_price p0) = false := jb_0.mp c18_6
      refine j_bipush (v := (-2)) (pc := 21) hX dX9_price_21 (by decide) ?_
      exact j_iret (pc := 23) hX hQ dX9_price_23 rfl ⟨(by first | rfl | first | (simp only [jb_t, jb_f, rPrice, kN_nI (show j < 100 by omega), c5_3, c5_3b, c18_6, c18_6b, reduceIte, eq_self, decide_true, decide_false, Bool.and_true, Bool.true_and, Bool.and_false, Bool.false_and, Bool.and_self, not_true_eq_false, not_false_eq_true, and_true, true_and, and_false, false_and, and_self]; done) | (simp [jb_t, jb_f, rPrice, kN_nI (show j < 100 by omega), c5_3, c5_3b, c18_6, c18_6b]; done)), (by rw [show okPrice v (nI j) p0 = false from by first | rfl | first | (simp only [jb_t, jb_f, okPrice, kN_nI (show j < 100 by omega), c5_3, c5_3b, c18_6, c18_6b, reduceIte, eq_self, decide_true, decide_false, Bool.and_true, Bool.true_and, Bool.and_false, Bool.false_and, Bool.and_self, not_true_eq_false, not_false_eq_true, and_true, true_and, and_false, false_and, and_self]; done) | (simp [jb_t, jb_f, okPrice, kN_nI (show j < 100 by omega), c5_3, c5_3b, c18_6, c18_6b]; done)]; rfl)⟩
  · skip
    have c5_3b : (S_is v.2.1 k) = false := jb_0.mp c5_3
    refine j_iconst (v := (-1)) (pc := 8) hX dX9_price_8 (by decide) ?_
    exact j_iret (pc := 9) hX hQ dX9_price_9 rfl ⟨(by first | rfl | first | (simp only [jb_t, jb_f, rPrice, c5_3, c5_3b, reduceIte, eq_self, decide_true, decide_false, Bool.and_true, Bool.true_and, Bool.and_false, Bool.false_and, Bool.and_self, not_true_eq_false, not_false_eq_true, and_true, true_and, and_false, false_and, and_self]; done) | (simp [jb_t, jb_f, rPrice, c5_3, c5_3b]; done)), (by rw [show okPrice v k p0 = false from by first | rfl | first | (simp only [jb_t, jb_f, okPrice, c5_3, c5_3b, reduceIte, eq_self, decide_true, decide_false, Bool.and_true, Bool.true_and, Bool.and_false, Bool.false_and, Bool.and_self, not_true_eq_false, not_false_eq_true, and_true, true_and, and_false, false_and, and_self]; done) | (simp [jb_t, jb_f, okPrice, c5_3, c5_3b]; done)]; rfl)⟩

set_option maxHeartbeats 4000000 in
set_option maxRecDepth 100000 in
theorem c_X9_mark (g : jG) (m : Nat) (a0 : Nat) (a1 : Nat) (a3 : Nat) (a4 : Nat) (a5 : Nat) (a7 : Nat) (a8 : Nat) (a10 : Nat) (a11 : Nat) (un : Nat) (sg : Nat) (mn : Nat) (ti : Nat) (dr : Int32) (rd : Nat) (op : Int32) (v : StT) (w : Nat → StT) (k : Int32) (p0 : Int32) (hv : v.2.1 ≤ 14) (hu : un ≤ 6) : jMI g yX9_mark cX9_mark 4 .int 2 43 [.ref m, .int k, .int p0] [(m, .inr (9, [.ref a0, .ref a1, .int (nI un), .ref a3, .ref a4, .ref a5, .int (nI sg), .ref a7, .ref a8, .int (nI mn), .ref a10, .ref a11, .int (nI ti), .int dr, .int (nI rd), .int op])), (a0, .inl (gI g, 60, .inl (nowF v))), (a1, .inl (gI g, 360, .inl (hisF w)))] (fun rz wz => rz = rMark v k p0 ∧ wz = [(m, .inr (9, [.ref a0, .ref a1, .int (nI (mC (okMark v k p0) un)), .ref a3, .ref a4, .ref a5, .int (nI sg), .ref a7, .ref a8, .int (nI mn), .ref a10, .ref a11, .int (nI ti), .int dr, .int (nI rd), .int op])), (a0, .inl (gI g, 60, .inl (nowF (mV (okMark v k p0) v (vMark v k p0))))), (a1, .inl (gI g, 360, .inl (hisF (mW (okMark v k p0) w un v))))]) := by
  refine jMI.intro (by decide +kernel) (Nat.le_of_ble_eq_true rfl) (fun x hX hQ => ?_)
  refine j_lv (lv2 := [(0, .ref m), (1, .int k), (2, .int p0)]) rfl ?_
  refine j_aload_n (pc := 0) hX dX9_mark_0 0 rfl ?_
  refine j_iload_n (pc := 1) hX dX9_mark_1 1 rfl ?_
  refine j_callVI (n := 1) (As := [.int k]) (rest := []) (pc := 2) hX (c_X9_isSet g m a0 a1 a3 a4 a5 a7 a8 a10 a11 un sg mn ti dr rd op v k (by first | assumption | omega)) (CV.of mw678 mw679 mw21 mw52 mw680 ⟨rfl, by decide +kernel, by decide +kernel, by decide +kernel⟩ (T := TX9) (N := 16) rfl) (Nat.le_of_ble_eq_true rfl) (Nat.le_of_ble_eq_true rfl) (Nat.le_of_ble_eq_true rfl) (Nat.le_of_ble_eq_true rfl) 0 rfl [0, 1] (by decide +kernel) rfl rfl rfl (Nat.le_of_ble_eq_true rfl) dX9_mark_2 (fun r1 wz hq2 => ?_)
  obtain ⟨rfl, rfl⟩ := hq2
  refine j_ws (ws2 := [(m, .inr (9, [.ref a0, .ref a1, .int (nI un), .ref a3, .ref a4, .ref a5, .int (nI sg), .ref a7, .ref a8, .int (nI mn), .ref a10, .ref a11, .int (nI ti), .int dr, .int (nI rd), .int op])), (a0, .inl (gI g, 60, .inl (nowF v))), (a1, .inl (gI g, 360, .inl (hisF w)))]) rfl ?_
  refine j_if_ne (tgt := 10) (pc := 5) hX dX9_mark_5 (by decide) (fun c5_3 => ?_) (fun c5_3 => ?_)
  · skip
    have c5_3b : (S_is v.2.1 k) = true := jb_1.mp c5_3
    obtain ⟨j, hj, rfl⟩ := S_is_t hv c5_3b
    refine j_iload_n (pc := 10) hX dX9_mark_10 2 rfl ?_
    refine j_iconst (v := 0) (pc := 11) hX dX9_mark_11 (by decide) ?_
    refine j_iconst (v := 2) (pc := 12) hX dX9_mark_12 (by decide) ?_
    refine j_callSI (n := 3) (As := [.int p0, .int 0, .int 2]) (rest := []) (pc := 13) hX (c_X9_in g p0 0 2 ) (CS.of mw661 mw662 mw52 mw663 ⟨by decide +kernel, by decide +kernel, by decide +kernel⟩) (Nat.le_of_ble_eq_true rfl) (Nat.le_of_ble_eq_true rfl) (Nat.le_of_ble_eq_true rfl) (Nat.le_of_ble_eq_true rfl) [] (by decide +kernel) rfl rfl rfl (Nat.le_of_ble_eq_true rfl) dX9_mark_13 (fun r4 wz hq5 => ?_)
    obtain ⟨rfl, rfl⟩ := hq5
    refine j_ws (ws2 := [(m, .inr (9, [.ref a0, .ref a1, .int (nI un), .ref a3, .ref a4, .ref a5, .int (nI sg), .ref a7, .ref a8, .int (nI mn), .ref a10, .ref a11, .int (nI ti), .int dr, .int (nI rd), .int op])), (a0, .inl (gI g, 60, .inl (nowF v))), (a1, .inl (gI g, 360, .inl (hisF w)))]) rfl ?_
    refine j_top (b := jb (okMk p0)) (by rw [in_mk]) ?_
    refine j_if_ne (tgt := 22) (pc := 16) hX dX9_mark_16 (by decide) (fun c16_6 => ?_) (fun c16_6 => ?_)
    · skip
      have c16_6b : (okMk p0) = true := jb_1.mp c16_6
      refine j_aload_n (pc := 22) hX dX9_mark_22 0 rfl ?_
      refine j_callVV (n := 0) (As := []) (rest := []) (pc := 23) hX (c_X9_record g m a0 a1 a3 a4 a5 a7 a8 a10 a11 un sg mn ti dr rd op v w (by first | assumption | omega) (by first | assumption | omega)) (CV.of mw664 mw665 mw19 mw52 mw666 ⟨rfl, by decide +kernel, by decide +kernel, by decide +kernel⟩ (T := TX9) (N := 16) rfl) (Nat.le_of_ble_eq_true rfl) (Nat.le_of_ble_eq_true rfl) (Nat.le_of_ble_eq_true rfl) (Nat.le_of_ble_eq_true rfl) 0 rfl [0, 1, 2] (by decide +kernel) rfl rfl rfl (Nat.le_of_ble_eq_true rfl) dX9_mark_23 (fun wz wnz hq8 => ?_)
      obtain ⟨rfl, rfl⟩ := hq8
      refine j_ws (ws2 := [(m, .inr (9, [.ref a0, .ref a1, .int (nI (hC un)), .ref a3, .ref a4, .ref a5, .int (nI sg), .ref a7, .ref a8, .int (nI mn), .ref a10, .ref a11, .int (nI ti), .int dr, .int (nI rd), .int op])), (a0, .inl (gI g, 60, .inl (nowF v))), (a1, .inl (gI g, 360, .inl (hisF (rW w un v))))]) rfl ?_
      refine j_aload_n (pc := 26) hX dX9_mark_26 0 rfl ?_
      refine j_iload_n (pc := 27) hX dX9_mark_27 1 rfl ?_
      refine j_callVI (n := 1) (As := [.int (nI j)]) (rest := []) (pc := 28) hX (c_X9_markOf g m a0 a1 a3 a4 a5 a7 a8 a10 a11 (hC un) sg mn ti dr rd op v j (by first | assumption | omega)) (CV.of mw688 mw689 mw23 mw52 mw690 ⟨rfl, by decide +kernel, by decide +kernel, by decide +kernel⟩ (T := TX9) (N := 16) rfl) (Nat.le_of_ble_eq_true rfl) (Nat.le_of_ble_eq_true rfl) (Nat.le_of_ble_eq_true rfl) (Nat.le_of_ble_eq_true rfl) 0 rfl [0, 1] (by decide +kernel) rfl rfl rfl (Nat.le_of_ble_eq_true rfl) dX9_mark_28 (fun r9 wz hq10 => ?_)
      obtain ⟨rfl, rfl⟩ := hq10
      refine j_ws (ws2 := [(m, .inr (9, [.ref a0, .ref a1, .int (nI (hC un)), .ref a3, .ref a4, .ref a5, .int (nI sg), .ref a7, .ref a8, .int (nI mn), .ref a10, .ref a11, .int (nI ti), .int dr, .int (nI rd), .int op])), (a0, .inl (gI g, 60, .inl (nowF v))), (a1, .inl (gI g, 360, .inl (hisF (rW w un v))))]) rfl ?_
      refine j_istore_n (lv2 := [(0, .ref m), (1, .int (nI j)), (2, .int p0), (3, .int (v.2.2.2.2 j))]) (pc := 31) hX dX9_mark_31 [1, 2, 3, 0] (by decide) rfl ?_
      refine j_aload_n (pc := 32) hX dX9_mark_32 0 rfl ?_
      refine j_get (ci := 9) (pc := 33) hX inG9 rfl 0 (by decide) mw624 0 rfl rfl dX9_mark_33 ?_
      refine j_bipush (v := 10) (pc := 36) hX dX9_mark_36 (by decide) ?_
      refine j_iconst (v := 3) (pc := 38) hX dX9_mark_38 (by decide) ?_
      refine j_iload_n (pc := 39) hX dX9_mark_39 1 rfl ?_
      refine j_imul (pc := 40) hX dX9_mark_40 ?_
      refine j_top (b := nI (3 * j)) (pk_mul 3 j) ?_
      refine j_iadd (pc := 41) hX dX9_mark_41 ?_
      refine j_top (b := nI (10 + (3 * j))) (nI_add 10 (3 * j)) ?_
      refine j_iconst (v := 2) (pc := 42) hX dX9_mark_42 (by decide) ?_
      refine j_iadd (pc := 43) hX dX9_mark_43 ?_
      refine j_top (b := nI ((10 + (3 * j)) + 2)) (nI_add (10 + (3 * j)) 2) ?_
      refine j_iload_n (pc := 44) hX dX9_mark_44 2 rfl ?_
      refine j_iast (pc := 45) hX 1 rfl ((10 + (3 * j)) + 2) rfl (by omega) (by omega) dX9_mark_45 ?_
      refine j_ws (ws2 := [(m, .inr (9, [.ref a0, .ref a1, .int (nI (hC un)), .ref a3, .ref a4, .ref a5, .int (nI sg), .ref a7, .ref a8, .int (nI mn), .ref a10, .ref a11, .int (nI ti), .int dr, .int (nI rd), .int op])), (a0, .inl (gI g, 60, .inl (nowF (v.1, v.2.1, v.2.2.1, v.2.2.2.1, upd v.2.2.2.2 j p0)))), (a1, .inl (gI g, 360, .inl (hisF (rW w un v))))]) (by first | (rw [nowF_uM]; done) | (rw [nowF_uM]; rfl)) ?_
      refine j_iload_n (pc := 46) hX dX9_mark_46 3 rfl ?_
      exact j_iret (pc := 47) hX hQ dX9_mark_47 rfl ⟨(by first | rfl | first | (simp only [jb_t, jb_f, rMark, kN_nI (show j < 100 by omega), c5_3, c5_3b, c16_6, c16_6b, reduceIte, eq_self, decide_true, decide_false, Bool.and_true, Bool.true_and, Bool.and_false, Bool.false_and, Bool.and_self, not_true_eq_false, not_false_eq_true, and_true, true_and, and_false, false_and, and_self]; done) | (simp [jb_t, jb_f, rMark, kN_nI (show j < 100 by omega), c5_3, c5_3b, c16_6, c16_6b]; done)), (by rw [show okMark v (nI j) p0 = true from by first | rfl | first | (simp only [jb_t, jb_f, okMark, kN_nI (show j < 100 by omega), c5_3, c5_3b, c16_6, c16_6b, reduceIte, eq_self, decide_true, decide_false, Bool.and_true, Bool.true_and, Bool.and_false, Bool.false_and, Bool.and_self, not_true_eq_false, not_false_eq_true, and_true, true_and, and_false, false_and, and_self]; done) | (simp [jb_t, jb_f, okMark, kN_nI (show j < 100 by omega), c5_3, c5_3b, c16_6, c16_6b]; done)]; first | rfl | (simp only [vMark, kN_nI (show j < 100 by omega)]; rfl) | (simp only [vMark, kN_nI (show j < 100 by omega), mC, mO, mU, mV]))⟩
    · skip
      have c16_6b : (okMk p0) = false := jb_0.mp c16_6
      refine j_bipush (v := (-2)) (pc := 19) hX dX9_mark_19 (by decide) ?_
      exact j_iret (pc := 21) hX hQ dX9_mark_21 rfl ⟨(by first | rfl | first | (simp only [jb_t, jb_f, rMark, kN_nI (show j < 100 by omega), c5_3, c5_3b, c16_6, c16_6b, reduceIte, eq_self, decide_true, decide_false, Bool.and_true, Bool.true_and, Bool.and_false, Bool.false_and, Bool.and_self, not_true_eq_false, not_false_eq_true, and_true, true_and, and_false, false_and, and_self]; done) | (simp [jb_t, jb_f, rMark, kN_nI (show j < 100 by omega), c5_3, c5_3b, c16_6, c16_6b]; done)), (by rw [show okMark v (nI j) p0 = false from by first | rfl | first | (simp only [jb_t, jb_f, okMark, kN_nI (show j < 100 by omega), c5_3, c5_3b, c16_6, c16_6b, reduceIte, eq_self, decide_true, decide_false, Bool.and_true, Bool.true_and, Bool.and_false, Bool.false_and, Bool.and_self, not_true_eq_false, not_false_eq_true, and_true, true_and, and_false, false_and, and_self]; done) | (simp [jb_t, jb_f, okMark, kN_nI (show j < 100 by omega), c5_3, c5_3b, c16_6, c16_6b]; done)]; rfl)⟩
  · skip
    have c5_3b : (S_is v.2.1 k) = false := jb_0.mp c5_3
    refine j_iconst (v := (-1)) (pc := 8) hX dX9_mark_8 (by decide) ?_
    exact j_iret (pc := 9) hX hQ dX9_mark_9 rfl ⟨(by first | rfl | first | (simp only [jb_t, jb_f, rMark, c5_3, c5_3b, reduceIte, eq_self, decide_true, decide_false, Bool.and_true, Bool.true_and, Bool.and_false, Bool.false_and, Bool.and_self, not_true_eq_false, not_false_eq_true, and_true, true_and, and_false, false_and, and_self]; done) | (simp [jb_t, jb_f, rMark, c5_3, c5_3b]; done)), (by rw [show okMark v k p0 = false from by first | rfl | first | (simp only [jb_t, jb_f, okMark, c5_3, c5_3b, reduceIte, eq_self, decide_true, decide_false, Bool.and_true, Bool.true_and, Bool.and_false, Bool.false_and, Bool.and_self, not_true_eq_false, not_false_eq_true, and_true, true_and, and_false, false_and, and_self]; done) | (simp [jb_t, jb_f, okMark, c5_3, c5_3b]; done)]; rfl)⟩

set_option maxHeartbeats 4000000 in
set_option maxRecDepth 100000 in
theorem c_X9_turn (g : jG) (m : Nat) (a0 : Nat) (a1 : Nat) (a3 : Nat) (a4 : Nat) (a5 : Nat) (a7 : Nat) (a8 : Nat) (a10 : Nat) (a11 : Nat) (un : Nat) (sg : Nat) (mn : Nat) (ti : Nat) (dr : Int32) (rd : Nat) (op : Int32) (v : StT) (w : Nat → StT) (k : Int32) (p0 : Int32) (hv : v.2.1 ≤ 14) (hu : un ≤ 6) : jMI g yX9_turn cX9_turn 3 .int 2 43 [.ref m, .int k, .int p0] [(m, .inr (9, [.ref a0, .ref a1, .int (nI un), .ref a3, .ref a4, .ref a5, .int (nI sg), .ref a7, .ref a8, .int (nI mn), .ref a10, .ref a11, .int (nI ti), .int dr, .int (nI rd), .int op])), (a0, .inl (gI g, 60, .inl (nowF v))), (a1, .inl (gI g, 360, .inl (hisF w)))] (fun rz wz => rz = rTurn v k p0 ∧ wz = [(m, .inr (9, [.ref a0, .ref a1, .int (nI (mC (okTurn v k p0) un)), .ref a3, .ref a4, .ref a5, .int (nI sg), .ref a7, .ref a8, .int (nI mn), .ref a10, .ref a11, .int (nI ti), .int dr, .int (nI rd), .int op])), (a0, .inl (gI g, 60, .inl (nowF (mV (okTurn v k p0) v (vTurn v k p0))))), (a1, .inl (gI g, 360, .inl (hisF (mW (okTurn v k p0) w un v))))]) := by
  refine jMI.intro (by decide +kernel) (Nat.le_of_ble_eq_true rfl) (fun x hX hQ => ?_)
  refine j_lv (lv2 := [(0, .ref m), (1, .int k), (2, .int p0)]) rfl ?_
  refine j_aload_n (pc := 0) hX dX9_turn_0 0 rfl ?_
  refine j_iload_n (pc := 1) hX dX9_turn_1 1 rfl ?_
  refine j_callVI (n := 1) (As := [.int k]) (rest := []) (pc := 2) hX (c_X9_isSet g m a0 a1 a3 a4 a5 a7 a8 a10 a11 un sg mn ti dr rd op v k (by first | assumption | omega)) (CV.of mw678 mw679 mw21 mw52 mw680 ⟨rfl, by decide +kernel, by decide +kernel, by decide +kernel⟩ (T := TX9) (N := 16) rfl) (Nat.le_of_ble_eq_true rfl) (Nat.le_of_ble_eq_true rfl) (Nat.le_of_ble_eq_true rfl) (Nat.le_of_ble_eq_true rfl) 0 rfl [0, 1] (by decide +kernel) rfl rfl rfl (Nat.le_of_ble_eq_true rfl) dX9_turn_2 (fun r1 wz hq2 => ?_)
  obtain ⟨rfl, rfl⟩ := hq2
  refine j_ws (ws2 := [(m, .inr (9, [.ref a0, .ref a1, .int (nI un), .ref a3, .ref a4, .ref a5, .int (nI sg), .ref a7, .ref a8, .int (nI mn), .ref a10, .ref a11, .int (nI ti), .int dr, .int (nI rd), .int op])), (a0, .inl (gI g, 60, .inl (nowF v))), (a1, .inl (gI g, 360, .inl (hisF w)))]) rfl ?_
  refine j_if_ne (tgt := 10) (pc := 5) hX dX9_turn_5 (by decide) (fun c5_3 => ?_) (fun c5_3 => ?_)
  · skip
    have c5_3b : (S_is v.2.1 k) = true := jb_1.mp c5_3
    obtain ⟨j, hj, rfl⟩ := S_is_t hv c5_3b
    refine j_iload_n (pc := 10) hX dX9_turn_10 2 rfl ?_
    refine j_iconst (v := 1) (pc := 11) hX dX9_turn_11 (by decide) ?_
    refine j_ldc (v := 262143) (pc := 12) hX mw660 dX9_turn_12 ?_
    refine j_callSI (n := 3) (As := [.int p0, .int 1, .int 262143]) (rest := []) (pc := 14) hX (c_X9_in g p0 1 262143 ) (CS.of mw661 mw662 mw52 mw663 ⟨by decide +kernel, by decide +kernel, by decide +kernel⟩) (Nat.le_of_ble_eq_true rfl) (Nat.le_of_ble_eq_true rfl) (Nat.le_of_ble_eq_true rfl) (Nat.le_of_ble_eq_true rfl) [] (by decide +kernel) rfl rfl rfl (Nat.le_of_ble_eq_true rfl) dX9_turn_14 (fun r4 wz hq5 => ?_)
    obtain ⟨rfl, rfl⟩ := hq5
    refine j_ws (ws2 := [(m, .inr (9, [.ref a0, .ref a1, .int (nI un), .ref a3, .ref a4, .ref a5, .int (nI sg), .ref a7, .ref a8, .int (nI mn), .ref a10, .ref a11, .int (nI ti), .int dr, .int (nI rd), .int op])), (a0, .inl (gI g, 60, .inl (nowF v))), (a1, .inl (gI g, 360, .inl (hisF w)))]) rfl ?_
    refine j_top (b := jb (S_things p0)) (rfl) ?_
    refine j_if_ne (tgt := 23) (pc := 17) hX dX9_turn_17 (by decide) (fun c17_6 => ?_) (fun c17_6 => ?_)
    · skip
      have c17_6b : (S_things p0) = true := jb_1.mp c17_6
      refine j_aload_n (pc := 23) hX dX9_turn_23 0 rfl ?_
      refine j_iload_n (pc := 24) hX dX9_turn_24 1 rfl ?_
      refine j_callVI (n := 1) (As := [.int (nI j)]) (rest := []) (pc := 25) hX (c_X9_things g m a0 a1 a3 a4 a5 a7 a8 a10 a11 un sg mn ti dr rd op v j (by first | assumption | omega)) (CV.of mw695 mw696 mw24 mw52 mw697 ⟨rfl, by decide +kernel, by decide +kernel, by decide +kernel⟩ (T := TX9) (N := 16) rfl) (Nat.le_of_ble_eq_true rfl) (Nat.le_of_ble_eq_true rfl) (Nat.le_of_ble_eq_true rfl) (Nat.le_of_ble_eq_true rfl) 0 rfl [0, 1] (by decide +kernel) rfl rfl rfl (Nat.le_of_ble_eq_true rfl) dX9_turn_25 (fun r7 wz hq8 => ?_)
      obtain ⟨rfl, rfl⟩ := hq8
      refine j_ws (ws2 := [(m, .inr (9, [.ref a0, .ref a1, .int (nI un), .ref a3, .ref a4, .ref a5, .int (nI sg), .ref a7, .ref a8, .int (nI mn), .ref a10, .ref a11, .int (nI ti), .int dr, .int (nI rd), .int op])), (a0, .inl (gI g, 60, .inl (nowF v))), (a1, .inl (gI g, 360, .inl (hisF w)))]) rfl ?_
      refine j_iload_n (pc := 28) hX dX9_turn_28 2 rfl ?_
      refine j_icmp_ne (tgt := 35) (pc := 29) hX dX9_turn_29 (by decide) (fun c29_9 => ?_) (fun c29_9 => ?_)
      · skip
        have hx : ¬ v.2.2.1 j ^^^ p0 = 0 := fun h9 => c29_9 (xor0.mp h9)
        refine j_aload_n (pc := 35) hX dX9_turn_35 0 rfl ?_
        refine j_callVV (n := 0) (As := []) (rest := []) (pc := 36) hX (c_X9_record g m a0 a1 a3 a4 a5 a7 a8 a10 a11 un sg mn ti dr rd op v w (by first | assumption | omega) (by first | assumption | omega)) (CV.of mw664 mw665 mw19 mw52 mw666 ⟨rfl, by decide +kernel, by decide +kernel, by decide +kernel⟩ (T := TX9) (N := 16) rfl) (Nat.le_of_ble_eq_true rfl) (Nat.le_of_ble_eq_true rfl) (Nat.le_of_ble_eq_true rfl) (Nat.le_of_ble_eq_true rfl) 0 rfl [0, 1, 2] (by decide +kernel) rfl rfl rfl (Nat.le_of_ble_eq_true rfl) dX9_turn_36 (fun wz wnz hq11 => ?_)
        obtain ⟨rfl, rfl⟩ := hq11
        refine j_ws (ws2 := [(m, .inr (9, [.ref a0, .ref a1, .int (nI (hC un)), .ref a3, .ref a4, .ref a5, .int (nI sg), .ref a7, .ref a8, .int (nI mn), .ref a10, .ref a11, .int (nI ti), .int dr, .int (nI rd), .int op])), (a0, .inl (gI g, 60, .inl (nowF v))), (a1, .inl (gI g, 360, .inl (hisF (rW w un v))))]) rfl ?_
        refine j_aload_n (pc := 39) hX dX9_turn_39 0 rfl ?_
        refine j_get (ci := 9) (pc := 40) hX inG9 rfl 0 (by decide) mw624 0 rfl rfl dX9_turn_40 ?_
        refine j_bipush (v := 10) (pc := 43) hX dX9_turn_43 (by decide) ?_
        refine j_iconst (v := 3) (pc := 45) hX dX9_turn_45 (by decide) ?_
        refine j_iload_n (pc := 46) hX dX9_turn_46 1 rfl ?_
        refine j_imul (pc := 47) hX dX9_turn_47 ?_
        refine j_top (b := nI (3 * j)) (pk_mul 3 j) ?_
        refine j_iadd (pc := 48) hX dX9_turn_48 ?_
        refine j_top (b := nI (10 + (3 * j))) (nI_add 10 (3 * j)) ?_
        refine j_dup2 (pc := 49) hX dX9_turn_49 rfl rfl ?_
        refine j_iald (pc := 50) hX 1 rfl (10 + (3 * j)) rfl (by omega) (by omega) dX9_turn_50 ?_
        refine j_top (b := v.2.2.1 j) (nowF_T v j) ?_
        refine j_iload_n (pc := 51) hX dX9_turn_51 2 rfl ?_
        refine j_ixor (pc := 52) hX dX9_turn_52 ?_
        refine j_iast (pc := 53) hX 1 rfl (10 + (3 * j)) rfl (by omega) (by omega) dX9_turn_53 ?_
        refine j_ws (ws2 := [(m, .inr (9, [.ref a0, .ref a1, .int (nI (hC un)), .ref a3, .ref a4, .ref a5, .int (nI sg), .ref a7, .ref a8, .int (nI mn), .ref a10, .ref a11, .int (nI ti), .int dr, .int (nI rd), .int op])), (a0, .inl (gI g, 60, .inl (nowF (v.1, v.2.1, upd v.2.2.1 j ((v.2.2.1 j) ^^^ p0), v.2.2.2.1, v.2.2.2.2)))), (a1, .inl (gI g, 360, .inl (hisF (rW w un v))))]) (by first | (rw [nowF_uT]; done) | (rw [nowF_uT]; rfl)) ?_
        refine j_aload_n (pc := 54) hX dX9_turn_54 0 rfl ?_
        refine j_iload_n (pc := 55) hX dX9_turn_55 1 rfl ?_
        refine j_callVI (n := 1) (As := [.int (nI j)]) (rest := []) (pc := 56) hX (c_X9_things g m a0 a1 a3 a4 a5 a7 a8 a10 a11 (hC un) sg mn ti dr rd op (v.1, v.2.1, upd v.2.2.1 j ((v.2.2.1 j) ^^^ p0), v.2.2.2.1, v.2.2.2.2) j (by first | assumption | omega)) (CV.of mw695 mw696 mw24 mw52 mw697 ⟨rfl, by decide +kernel, by decide +kernel, by decide +kernel⟩ (T := TX9) (N := 16) rfl) (Nat.le_of_ble_eq_true rfl) (Nat.le_of_ble_eq_true rfl) (Nat.le_of_ble_eq_true rfl) (Nat.le_of_ble_eq_true rfl) 0 rfl [0, 1] (by decide +kernel) rfl rfl rfl (Nat.le_of_ble_eq_true rfl) dX9_turn_56 (fun r12 wz hq13 => ?_)
        obtain ⟨rfl, rfl⟩ := hq13
        refine j_ws (ws2 := [(m, .inr (9, [.ref a0, .ref a1, .int (nI (hC un)), .ref a3, .ref a4, .ref a5, .int (nI sg), .ref a7, .ref a8, .int (nI mn), .ref a10, .ref a11, .int (nI ti), .int dr, .int (nI rd), .int op])), (a0, .inl (gI g, 60, .inl (nowF (v.1, v.2.1, upd v.2.2.1 j ((v.2.2.1 j) ^^^ p0), v.2.2.2.1, v.2.2.2.2)))), (a1, .inl (gI g, 360, .inl (hisF (rW w un v))))]) rfl ?_
        exact j_iret (pc := 59) hX hQ dX9_turn_59 rfl ⟨(by first | rfl | first | (simp only [jb_t, jb_f, rTurn, upd, kN_nI (show j < 100 by omega), c5_3, c5_3b, c17_6, c17_6b, c29_9, hx, reduceIte, eq_self, decide_true, decide_false, Bool.and_true, Bool.true_and, Bool.and_false, Bool.false_and, Bool.and_self, not_true_eq_false, not_false_eq_true, and_true, true_and, and_false, false_and, and_self]; done) | (simp [jb_t, jb_f, rTurn, upd, kN_nI (show j < 100 by omega), c5_3, c5_3b, c17_6, c17_6b, c29_9, hx]; done)), (by rw [show okTurn v (nI j) p0 = true from by first | rfl | first | (simp only [jb_t, jb_f, okTurn, Bool.not_false, Bool.not_true, kN_nI (show j < 100 by omega), c5_3, c5_3b, c17_6, c17_6b, c29_9, hx, reduceIte, eq_self, decide_true, decide_false, Bool.and_true, Bool.true_and, Bool.and_false, Bool.false_and, Bool.and_self, not_true_eq_false, not_false_eq_true, and_true, true_and, and_false, false_and, and_self]; done) | (simp [jb_t, jb_f, okTurn, Bool.not_false, Bool.not_true, kN_nI (show j < 100 by omega), c5_3, c5_3b, c17_6, c17_6b, c29_9, hx]; done)]; first | rfl | (simp only [vTurn, kN_nI (show j < 100 by omega)]; rfl) | (simp only [vTurn, kN_nI (show j < 100 by omega), mC, mO, mU, mV]))⟩
      · skip
        have hx : v.2.2.1 j ^^^ p0 = 0 := xor0.mpr c29_9
        refine j_bipush (v := (-5)) (pc := 32) hX dX9_turn_32 (by decide) ?_
        exact j_iret (pc := 34) hX hQ dX9_turn_34 rfl ⟨(by first | rfl | first | (simp only [jb_t, jb_f, rTurn, upd, kN_nI (show j < 100 by omega), c5_3, c5_3b, c17_6, c17_6b, c29_9, hx, reduceIte, eq_self, decide_true, decide_false, Bool.and_true, Bool.true_and, Bool.and_false, Bool.false_and, Bool.and_self, not_true_eq_false, not_false_eq_true, and_true, true_and, and_false, false_and, and_self]; done) | (simp [jb_t, jb_f, rTurn, upd, kN_nI (show j < 100 by omega), c5_3, c5_3b, c17_6, c17_6b, c29_9, hx]; done)), (by rw [show okTurn v (nI j) p0 = false from by first | rfl | first | (simp only [jb_t, jb_f, okTurn, Bool.not_false, Bool.not_true, kN_nI (show j < 100 by omega), c5_3, c5_3b, c17_6, c17_6b, c29_9, hx, reduceIte, eq_self, decide_true, decide_false, Bool.and_true, Bool.true_and, Bool.and_false, Bool.false_and, Bool.and_self, not_true_eq_false, not_false_eq_true, and_true, true_and, and_false, false_and, and_self]; done) | (simp [jb_t, jb_f, okTurn, Bool.not_false, Bool.not_true, kN_nI (show j < 100 by omega), c5_3, c5_3b, c17_6, c17_6b, c29_9, hx]; done)]; rfl)⟩
    · skip
      have c17_6b : (S_things p0) = false := jb_0.mp c17_6
      refine j_bipush (v := (-2)) (pc := 20) hX dX9_turn_20 (by decide) ?_
      exact j_iret (pc := 22) hX hQ dX9_turn_22 rfl ⟨(by first | rfl | first | (simp only [jb_t, jb_f, rTurn, upd, kN_nI (show j < 100 by omega), c5_3, c5_3b, c17_6, c17_6b, reduceIte, eq_self, decide_true, decide_false, Bool.and_true, Bool.true_and, Bool.and_false, Bool.false_and, Bool.and_self, not_true_eq_false, not_false_eq_true, and_true, true_and, and_false, false_and, and_self]; done) | (simp [jb_t, jb_f, rTurn, upd, kN_nI (show j < 100 by omega), c5_3, c5_3b, c17_6, c17_6b]; done)), (by rw [show okTurn v (nI j) p0 = false from by first | rfl | first | (simp only [jb_t, jb_f, okTurn, Bool.not_false, Bool.not_true, kN_nI (show j < 100 by omega), c5_3, c5_3b, c17_6, c17_6b, reduceIte, eq_self, decide_true, decide_false, Bool.and_true, Bool.true_and, Bool.and_false, Bool.false_and, Bool.and_self, not_true_eq_false, not_false_eq_true, and_true, true_and, and_false, false_and, and_self]; done) | (simp [jb_t, jb_f, okTurn, Bool.not_false, Bool.not_true, kN_nI (show j < 100 by omega), c5_3, c5_3b, c17_6, c17_6b]; done)]; rfl)⟩
  · skip
    have c5_3b : (S_is v.2.1 k) = false := jb_0.mp c5_3
    refine j_iconst (v := (-1)) (pc := 8) hX dX9_turn_8 (by decide) ?_
    exact j_iret (pc := 9) hX hQ dX9_turn_9 rfl ⟨(by first | rfl | first | (simp only [jb_t, jb_f, rTurn, upd, c5_3, c5_3b, reduceIte, eq_self, decide_true, decide_false, Bool.and_true, Bool.true_and, Bool.and_false, Bool.false_and, Bool.and_self, not_true_eq_false, not_false_eq_true, and_true, true_and, and_false, false_and, and_self]; done) | (simp [jb_t, jb_f, rTurn, upd, c5_3, c5_3b]; done)), (by rw [show okTurn v k p0 = false from by first | rfl | first | (simp only [jb_t, jb_f, okTurn, Bool.not_false, Bool.not_true, c5_3, c5_3b, reduceIte, eq_self, decide_true, decide_false, Bool.and_true, Bool.true_and, Bool.and_false, Bool.false_and, Bool.and_self, not_true_eq_false, not_false_eq_true, and_true, true_and, and_false, false_and, and_self]; done) | (simp [jb_t, jb_f, okTurn, Bool.not_false, Bool.not_true, c5_3, c5_3b]; done)]; rfl)⟩

set_option maxHeartbeats 4000000 in
set_option maxRecDepth 100000 in
theorem c_X9_drop (g : jG) (m : Nat) (a0 : Nat) (a1 : Nat) (a3 : Nat) (a4 : Nat) (a5 : Nat) (a7 : Nat) (a8 : Nat) (a10 : Nat) (a11 : Nat) (un : Nat) (sg : Nat) (mn : Nat) (ti : Nat) (dr : Int32) (rd : Nat) (op : Int32) (v : StT) (w : Nat → StT) (k : Int32) (hv : v.2.1 ≤ 14) (hu : un ≤ 6) : jMI g yX9_drop cX9_drop 3 .int 2 43 [.ref m, .int k] [(m, .inr (9, [.ref a0, .ref a1, .int (nI un), .ref a3, .ref a4, .ref a5, .int (nI sg), .ref a7, .ref a8, .int (nI mn), .ref a10, .ref a11, .int (nI ti), .int dr, .int (nI rd), .int op])), (a0, .inl (gI g, 60, .inl (nowF v))), (a1, .inl (gI g, 360, .inl (hisF w)))] (fun rz wz => rz = rDrop v k ∧ wz = [(m, .inr (9, [.ref a0, .ref a1, .int (nI (mC (okDrop v k) un)), .ref a3, .ref a4, .ref a5, .int (nI sg), .ref a7, .ref a8, .int (nI mn), .ref a10, .ref a11, .int (nI ti), .int dr, .int (nI rd), .int op])), (a0, .inl (gI g, 60, .inl (nowF (mV (okDrop v k) v (vDrop v k))))), (a1, .inl (gI g, 360, .inl (hisF (mW (okDrop v k) w un v))))]) := by
  refine jMI.intro (by decide +kernel) (Nat.le_of_ble_eq_true rfl) (fun x hX hQ => ?_)
  refine j_lv (lv2 := [(0, .ref m), (1, .int k)]) rfl ?_
  refine j_aload_n (pc := 0) hX dX9_drop_0 0 rfl ?_
  refine j_iload_n (pc := 1) hX dX9_drop_1 1 rfl ?_
  refine j_callVI (n := 1) (As := [.int k]) (rest := []) (pc := 2) hX (c_X9_isSet g m a0 a1 a3 a4 a5 a7 a8 a10 a11 un sg mn ti dr rd op v k (by first | assumption | omega)) (CV.of mw678 mw679 mw21 mw52 mw680 ⟨rfl, by decide +kernel, by decide +kernel, by decide +kernel⟩ (T := TX9) (N := 16) rfl) (Nat.le_of_ble_eq_true rfl) (Nat.le_of_ble_eq_true rfl) (Nat.le_of_ble_eq_true rfl) (Nat.le_of_ble_eq_true rfl) 0 rfl [0, 1] (by decide +kernel) rfl rfl rfl (Nat.le_of_ble_eq_true rfl) dX9_drop_2 (fun r1 wz hq2 => ?_)
  obtain ⟨rfl, rfl⟩ := hq2
  refine j_ws (ws2 := [(m, .inr (9, [.ref a0, .ref a1, .int (nI un), .ref a3, .ref a4, .ref a5, .int (nI sg), .ref a7, .ref a8, .int (nI mn), .ref a10, .ref a11, .int (nI ti), .int dr, .int (nI rd), .int op])), (a0, .inl (gI g, 60, .inl (nowF v))), (a1, .inl (gI g, 360, .inl (hisF w)))]) rfl ?_
  refine j_if_ne (tgt := 10) (pc := 5) hX dX9_drop_5 (by decide) (fun c5_3 => ?_) (fun c5_3 => ?_)
  · skip
    have c5_3b : (S_is v.2.1 k) = true := jb_1.mp c5_3
    obtain ⟨j, hj, rfl⟩ := S_is_t hv c5_3b
    refine j_aload_n (pc := 10) hX dX9_drop_10 0 rfl ?_
    refine j_callVV (n := 0) (As := []) (rest := []) (pc := 11) hX (c_X9_record g m a0 a1 a3 a4 a5 a7 a8 a10 a11 un sg mn ti dr rd op v w (by first | assumption | omega) (by first | assumption | omega)) (CV.of mw664 mw665 mw19 mw52 mw666 ⟨rfl, by decide +kernel, by decide +kernel, by decide +kernel⟩ (T := TX9) (N := 16) rfl) (Nat.le_of_ble_eq_true rfl) (Nat.le_of_ble_eq_true rfl) (Nat.le_of_ble_eq_true rfl) (Nat.le_of_ble_eq_true rfl) 0 rfl [0, 1, 2] (by decide +kernel) rfl rfl rfl (Nat.le_of_ble_eq_true rfl) dX9_drop_11 (fun wz wnz hq5 => ?_)
    obtain ⟨rfl, rfl⟩ := hq5
    refine j_ws (ws2 := [(m, .inr (9, [.ref a0, .ref a1, .int (nI (hC un)), .ref a3, .ref a4, .ref a5, .int (nI sg), .ref a7, .ref a8, .int (nI mn), .ref a10, .ref a11, .int (nI ti), .int dr, .int (nI rd), .int op])), (a0, .inl (gI g, 60, .inl (nowF v))), (a1, .inl (gI g, 360, .inl (hisF (rW w un v))))]) rfl ?_
    refine j_aload_n (pc := 14) hX dX9_drop_14 0 rfl ?_
    refine j_get (ci := 9) (pc := 15) hX inG9 rfl 0 (by decide) mw624 0 rfl rfl dX9_drop_15 ?_
    refine j_iconst (v := 0) (pc := 18) hX dX9_drop_18 (by decide) ?_
    refine j_dup2 (pc := 19) hX dX9_drop_19 rfl rfl ?_
    refine j_iald (pc := 20) hX 1 rfl 0 rfl (by omega) (by omega) dX9_drop_20 ?_
    refine j_top (b := nI v.2.1) (rfl) ?_
    refine j_iconst (v := 1) (pc := 21) hX dX9_drop_21 (by decide) ?_
    refine j_isub (pc := 22) hX dX9_drop_22 ?_
    refine j_top (b := nI (v.2.1 - 1)) (pk_sub (a := v.2.1) (b := 1) (by omega)) ?_
    refine j_iast (pc := 23) hX 1 rfl 0 rfl (by omega) (by omega) dX9_drop_23 ?_
    refine j_ws (ws2 := [(m, .inr (9, [.ref a0, .ref a1, .int (nI (hC un)), .ref a3, .ref a4, .ref a5, .int (nI sg), .ref a7, .ref a8, .int (nI mn), .ref a10, .ref a11, .int (nI ti), .int dr, .int (nI rd), .int op])), (a0, .inl (gI g, 60, .inl (nowF (v.1, v.2.1 - 1, v.2.2.1, v.2.2.2.1, v.2.2.2.2)))), (a1, .inl (gI g, 360, .inl (hisF (rW w un v))))]) (by first | (rw [nowF_u0]; done) | (rw [nowF_u0]; rfl)) ?_
    refine j_bipush (v := 10) (pc := 24) hX dX9_drop_24 (by decide) ?_
    refine j_iconst (v := 3) (pc := 26) hX dX9_drop_26 (by decide) ?_
    refine j_iload_n (pc := 27) hX dX9_drop_27 1 rfl ?_
    refine j_imul (pc := 28) hX dX9_drop_28 ?_
    refine j_top (b := nI (3 * j)) (pk_mul 3 j) ?_
    refine j_iadd (pc := 29) hX dX9_drop_29 ?_
    refine j_top (b := nI (10 + (3 * j))) (nI_add 10 (3 * j)) ?_
    refine j_istore_n (lv2 := [(0, .ref m), (1, .int (nI j)), (2, .int (nI (10 + (3 * j))))]) (pc := 30) hX dX9_drop_30 [1, 2, 0] (by decide) rfl ?_
    have L31 : ∀ (d : Nat) (i : Nat), 10 + 3 * j ≤ i → i ≤ 10 + 3 * (v.2.1 - 1) → 50 - i = d → J g x 3 0 0 31 [(0, .ref m), (1, .int (nI j)), (2, .int (nI i))] [] [(m, .inr (9, [.ref a0, .ref a1, .int (nI (hC un)), .ref a3, .ref a4, .ref a5, .int (nI sg), .ref a7, .ref a8, .int (nI mn), .ref a10, .ref a11, .int (nI ti), .int dr, .int (nI rd), .int op])), (a0, .inl (gI g, 60, .inl (drF (v.1, v.2.1 - 1, v.2.2) j i))), (a1, .inl (gI g, 360, .inl (hisF (rW w un v))))] := by
      intro d
      induction d using Nat.strongRecOn with
      | _ d ih31 =>
        intro i hi0 hi hd31
        refine j_iload_n (pc := 31) hX dX9_drop_31 2 rfl ?_
        refine j_bipush (v := 10) (pc := 32) hX dX9_drop_32 (by decide) ?_
        refine j_iconst (v := 3) (pc := 34) hX dX9_drop_34 (by decide) ?_
        refine j_aload_n (pc := 35) hX dX9_drop_35 0 rfl ?_
        refine j_get (ci := 9) (pc := 36) hX inG9 rfl 0 (by decide) mw624 0 rfl rfl dX9_drop_36 ?_
        refine j_iconst (v := 0) (pc := 39) hX dX9_drop_39 (by decide) ?_
        refine j_iald (pc := 40) hX 1 rfl 0 rfl (by omega) (by omega) dX9_drop_40 ?_
        refine j_top (b := nI (v.2.1 - 1)) (drF_n _ _ _) ?_
        refine j_imul (pc := 41) hX dX9_drop_41 ?_
        refine j_top (b := nI (3 * (v.2.1 - 1))) (pk_mul 3 (v.2.1 - 1)) ?_
        refine j_iadd (pc := 42) hX dX9_drop_42 ?_
        refine j_top (b := nI (10 + (3 * (v.2.1 - 1)))) (nI_add 10 (3 * (v.2.1 - 1))) ?_
        refine j_icmp_ge (tgt := 66) (pc := 43) hX dX9_drop_43 (by decide) (fun c43_6 => ?_) (fun c43_6 => ?_)
        · skip
          have c43_6n : (10 + (3 * (v.2.1 - 1))) ≤ i := (nI_leI (a := (10 + (3 * (v.2.1 - 1)))) (b := i) (by omega) (by omega)).mp c43_6
          have c43_6m : ¬ i < (10 + (3 * (v.2.1 - 1))) := by omega
          refine j_aload_n (pc := 66) hX dX9_drop_66 0 rfl ?_
          refine j_get (ci := 9) (pc := 67) hX inG9 rfl 0 (by decide) mw624 0 rfl rfl dX9_drop_67 ?_
          refine j_iconst (v := 0) (pc := 70) hX dX9_drop_70 (by decide) ?_
          refine j_iald (pc := 71) hX 1 rfl 0 rfl (by omega) (by omega) dX9_drop_71 ?_
          refine j_top (b := nI (v.2.1 - 1)) (drF_n _ _ _) ?_
          exact j_iret (pc := 72) hX hQ dX9_drop_72 rfl ⟨(by simp only [rDrop, c5_3b, if_true]), (by rw [show okDrop v (nI j) = true from c5_3b, show i = 10 + 3 * (v.2.1 - 1) by omega, drF_e v hj hv]; rfl)⟩
        · skip
          have c43_6n : ¬ (10 + (3 * (v.2.1 - 1))) ≤ i := fun h9 => c43_6 ((nI_leI (a := (10 + (3 * (v.2.1 - 1)))) (b := i) (by omega) (by omega)).mpr h9)
          have c43_6m : i < (10 + (3 * (v.2.1 - 1))) := by omega
          refine j_aload_n (pc := 46) hX dX9_drop_46 0 rfl ?_
          refine j_get (ci := 9) (pc := 47) hX inG9 rfl 0 (by decide) mw624 0 rfl rfl dX9_drop_47 ?_
          refine j_iload_n (pc := 50) hX dX9_drop_50 2 rfl ?_
          refine j_aload_n (pc := 51) hX dX9_drop_51 0 rfl ?_
          refine j_get (ci := 9) (pc := 52) hX inG9 rfl 0 (by decide) mw624 0 rfl rfl dX9_drop_52 ?_
          refine j_iload_n (pc := 55) hX dX9_drop_55 2 rfl ?_
          refine j_iconst (v := 3) (pc := 56) hX dX9_drop_56 (by decide) ?_
          refine j_iadd (pc := 57) hX dX9_drop_57 ?_
          refine j_top (b := nI (i + 3)) (nI_add i 3) ?_
          refine j_iald (pc := 58) hX 1 rfl (i + 3) rfl (by omega) (by omega) dX9_drop_58 ?_
          refine j_top (b := nowF (v.1, v.2.1 - 1, v.2.2) (i + 3)) (drF_at _ _ _) ?_
          refine j_iast (pc := 59) hX 1 rfl i rfl (by omega) (by omega) dX9_drop_59 ?_
          refine j_ws (ws2 := [(m, .inr (9, [.ref a0, .ref a1, .int (nI (hC un)), .ref a3, .ref a4, .ref a5, .int (nI sg), .ref a7, .ref a8, .int (nI mn), .ref a10, .ref a11, .int (nI ti), .int dr, .int (nI rd), .int op])), (a0, .inl (gI g, 60, .inl (upd (drF (v.1, v.2.1 - 1, v.2.2) j i) i (nowF (v.1, v.2.1 - 1, v.2.2) (i + 3))))), (a1, .inl (gI g, 360, .inl (hisF (rW w un v))))]) rfl ?_
          refine j_iinc (v := nI (i + 1)) (lv2 := [(0, .ref m), (1, .int (nI j)), (2, .int (nI (i + 1)))]) (pc := 60) hX dX9_drop_60 2 rfl (nI_add i 1) [1, 2, 0] (by decide) rfl ?_
          refine j_goto (tgt := 31) (pc := 63) hX dX9_drop_63 (by decide) ?_
          exact j_eq (lv2 := [(0, .ref m), (1, .int (nI j)), (2, .int (nI (i + 1)))]) (ws2 := [(m, .inr (9, [.ref a0, .ref a1, .int (nI (hC un)), .ref a3, .ref a4, .ref a5, .int (nI sg), .ref a7, .ref a8, .int (nI mn), .ref a10, .ref a11, .int (nI ti), .int dr, .int (nI rd), .int op])), (a0, .inl (gI g, 60, .inl (drF (v.1, v.2.1 - 1, v.2.2) j (i + 1)))), (a1, .inl (gI g, 360, .inl (hisF (rW w un v))))]) (by first | rfl | rw [drF_s _ _ _ (by omega)]) (by first | rfl | rw [drF_s _ _ _ (by omega)]) (ih31 _ (by omega) (i + 1) (by omega) (by omega) rfl)
    exact j_eq (lv2 := [(0, .ref m), (1, .int (nI j)), (2, .int (nI (10 + 3 * j)))]) (ws2 := [(m, .inr (9, [.ref a0, .ref a1, .int (nI (hC un)), .ref a3, .ref a4, .ref a5, .int (nI sg), .ref a7, .ref a8, .int (nI mn), .ref a10, .ref a11, .int (nI ti), .int dr, .int (nI rd), .int op])), (a0, .inl (gI g, 60, .inl (drF (v.1, v.2.1 - 1, v.2.2) j (10 + 3 * j)))), (a1, .inl (gI g, 360, .inl (hisF (rW w un v))))]) (by first | rfl | rw [drF_b]) (by first | rfl | rw [drF_b]) (L31 _ (10 + 3 * j) (by omega) (by omega) rfl)
  · skip
    have c5_3b : (S_is v.2.1 k) = false := jb_0.mp c5_3
    refine j_iconst (v := (-1)) (pc := 8) hX dX9_drop_8 (by decide) ?_
    exact j_iret (pc := 9) hX hQ dX9_drop_9 rfl ⟨(by first | rfl | first | (simp only [jb_t, jb_f, rDrop, c5_3, c5_3b, reduceIte, eq_self, decide_true, decide_false, Bool.and_true, Bool.true_and, Bool.and_false, Bool.false_and, Bool.and_self, not_true_eq_false, not_false_eq_true, and_true, true_and, and_false, false_and, and_self]; done) | (simp [jb_t, jb_f, rDrop, c5_3, c5_3b]; done)), (by rw [show okDrop v k = false from by first | rfl | first | (simp only [jb_t, jb_f, okDrop, c5_3, c5_3b, reduceIte, eq_self, decide_true, decide_false, Bool.and_true, Bool.true_and, Bool.and_false, Bool.false_and, Bool.and_self, not_true_eq_false, not_false_eq_true, and_true, true_and, and_false, false_and, and_self]; done) | (simp [jb_t, jb_f, okDrop, c5_3, c5_3b]; done)]; rfl)⟩

