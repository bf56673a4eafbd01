/-! the reference: its shares: raised, order, how many are tight, rounds, open -/
def S_ts (o : Nat → Nat) : Nat → Int32
  | 0 => 0
  | k + 1 => S_ts o k ||| bI (o k)
def S_po (o : Nat → Nat) (s : Nat) : Nat → Option Nat
  | 0 => none
  | k + 1 => if o k = s then some k else S_po o s k
def S_fl (x : Int32) (ra : Nat → Int32) : Nat → Int32
  | 0 => 0
  | t + 1 => if bt x t = true then S_fl x ra t + ra t else S_fl x ra t
theorem S_po_n {o : Nat → Nat} {s : Nat} : ∀ {n : Nat}, S_po o s n = none → ∀ j, j < n → ¬ o j = s
  | 0, _, j, hj => absurd hj (Nat.not_lt_zero j)
  | n + 1, h, j, hj => by
    rw [S_po] at h
    split at h
    · cases h
    · rename_i h2
      by_cases he : j = n
      · rw [he]; exact h2
      · exact S_po_n h j (by omega)
theorem S_po_lt {o : Nat → Nat} {s : Nat} : ∀ {n k : Nat}, S_po o s n = some k → k < n ∧ o k = s
  | 0, k, h => by cases h
  | n + 1, k, h => by
    rw [S_po] at h
    split at h
    · cases h
      exact ⟨Nat.lt_succ_self _, by assumption⟩
    · have := S_po_lt h
      exact ⟨by omega, this.2⟩
theorem oN_n {o : Option Nat} (h : ¬ 0 ≤ oN o) (hb : ∀ k, o = some k → k < 100) : o = none := by
  cases o with
  | none => rfl
  | some k => exact absurd ((nI_leI (a := 0) (b := k) (by decide) (by have := hb k rfl; omega)).mpr (Nat.zero_le k)) h
/-- different numbers below n: at most n -/
theorem pigeon : ∀ (n m : Nat) (f : Nat → Nat), (∀ j, j < m → f j < n) → (∀ i j, i < j → j < m → ¬ f i = f j) → m ≤ n
  | 0, 0, _, _, _ => Nat.le_refl 0
  | 0, m + 1, f, h, _ => absurd (h 0 (by omega)) (Nat.not_lt_zero _)
  | n + 1, 0, _, _, _ => Nat.zero_le _
  | n + 1, m + 1, f, h, hd => by
    have key := pigeon n m (fun j => if f j = n then f m else f j) (fun j hj => by
      split
      · rename_i hjn
        have h1 := h m (by omega)
        have h2 := hd j m hj (by omega)
        omega
      · have h1 := h j (by omega)
        omega) (fun i j hij hj => by
      have d1 := hd i j hij (by omega)
      have d2 := hd i m (by omega) (by omega)
      have d3 := hd j m hj (by omega)
      split <;> split <;> omega)
    omega
abbrev OT : Type := (Nat → Nat) × Nat
def TI (v : StT) (p : OT) : Prop := p.2 ≤ 14 ∧ (∀ j, p.1 j < 100) ∧ (∀ j, j < p.2 → p.1 j < v.2.1) ∧ (∀ i j, i < j → j < p.2 → ¬ p.1 i = p.1 j)
theorem TI_s {v : StT} {p : OT} {k : Nat} (hv : v.2.1 ≤ 14) (h : TI v p) (hk : k < v.2.1) (hp : S_po p.1 k p.2 = none) : p.2 < 14 ∧ TI v (updN p.1 p.2 k, p.2 + 1) := by
  obtain ⟨h1, h2, h3, h4⟩ := h
  have hn := S_po_n hp
  have e : ∀ j, updN p.1 p.2 k j = if j = p.2 then k else p.1 j := fun j => rfl
  have g3 : ∀ j, j < p.2 + 1 → updN p.1 p.2 k j < v.2.1 := fun j hj => by
    rw [e]
    split
    · exact hk
    · exact h3 j (by omega)
  have g4 : ∀ i j, i < j → j < p.2 + 1 → ¬ updN p.1 p.2 k i = updN p.1 p.2 k j := fun i j hij hj => by
    rw [e, e, if_neg (by omega)]
    split
    · exact hn i (by omega)
    · exact h4 i j hij (by omega)
  have g := pigeon v.2.1 (p.2 + 1) _ g3 g4
  refine ⟨by omega, by show p.2 + 1 ≤ 14; omega, fun j => ?_, g3, g4⟩
  show updN p.1 p.2 k j < 100
  rw [e]
  split
  · omega
  · exact h2 j
def tG (v : StT) (op : Int32) (ra : Nat → Int32) (p : OT) : Nat → OT
  | 0 => p
  | k + 1 => if v.2.2.2.2 k = 0 then (if 0 ≤ oN (S_po (tG v op ra p k).1 k (tG v op ra p k).2) then tG v op ra p k else if S_fl (v.2.2.1 k &&& op) ra 18 = v.2.2.2.1 k then (updN (tG v op ra p k).1 (tG v op ra p k).2 k, (tG v op ra p k).2 + 1) else tG v op ra p k) else tG v op ra p k
theorem S_po_100 {o : Nat → Nat} {s n : Nat} (hn : n ≤ 14) : ∀ k, S_po o s n = some k → k < 100 := fun k h => by
  have := (S_po_lt h).1
  omega
theorem tG_TI {v : StT} {op : Int32} {ra : Nat → Int32} {p : OT} (hv : v.2.1 ≤ 14) (h : TI v p) : ∀ k, k ≤ v.2.1 → TI v (tG v op ra p k)
  | 0, _ => h
  | k + 1, hk => by
    have h1 := tG_TI (op := op) (ra := ra) hv h k (by omega)
    rw [tG]
    split
    · split
      · exact h1
      · rename_i hp
        split
        · exact (TI_s hv h1 (by omega) (oN_n hp (S_po_100 h1.1))).2
        · exact h1
    · exact h1
abbrev MT : Type := (Nat → Int32) × (Nat → Nat) × Nat × Nat × Int32
def lfM (v : StT) (y : MT) : Int32 := y.2.2.2.2 &&& (S_or v.2.2.1 (S_ts y.2.1 y.2.2.1) v.2.1 ^^^ (-1))
def rtM (v : StT) (y : MT) (t : Nat) : MT := (upd y.1 t (y.1 t + 1), (tG v y.2.2.2.2 (upd y.1 t (y.1 t + 1)) (y.2.1, y.2.2.1) v.2.1).1, (tG v y.2.2.2.2 (upd y.1 t (y.1 t + 1)) (y.2.1, y.2.2.1) v.2.1).2, y.2.2.2.1, y.2.2.2.2)
def mrM (v : StT) (y : MT) : Nat → MT
  | 0 => y
  | t + 1 => if bt (lfM v (mrM v y t)) t = true then rtM v (mrM v y t) t else mrM v y t
def rdM (y : MT) : MT := (y.1, y.2.1, y.2.2.1, y.2.2.2.1 + 1, y.2.2.2.2)
def maM (v : StT) : Nat → MT → MT
  | 0, y => y
  | f + 1, y => if lfM v y = 0 then y else maM v f (mrM v (rdM y) 18)
def m0M (v : StT) (o : Nat → Nat) : MT := (fun _ => 0, o, 0, 0, v.1 &&& (S_or v.2.2.1 (S_mk v.2.2.2.2 1 v.2.1) v.2.1 ^^^ (-1)))
def RM (v : StT) (o : Nat → Nat) : MT := maM v 500 (m0M v o)
def TY (v : StT) (y : MT) : Prop := TI v (y.2.1, y.2.2.1)
theorem mrM_TY {v : StT} {y : MT} (hv : v.2.1 ≤ 14) (h : TY v y) : ∀ t, TY v (mrM v y t)
  | 0 => h
  | t + 1 => by
    have h1 := mrM_TY hv h t
    rw [mrM]
    split
    · exact tG_TI hv h1 v.2.1 (Nat.le_refl _)
    · exact h1
theorem maM_go {v : StT} {y : MT} {i : Nat} {o : Nat → Nat} (hi : i ≤ 500) (hR : maM v (500 - i) y = RM v o) (hf : lfM v (RM v o) = 0) (h : ¬ lfM v y = 0) : i < 500 ∧ maM v (500 - (i + 1)) (mrM v (rdM y) 18) = RM v o := by
  have h5 : i < 500 := by
    by_cases h9 : i = 500
    · subst h9
      rw [← hR] at hf
      exact absurd hf h
    · omega
  refine ⟨h5, ?_⟩
  rw [show 500 - i = (500 - (i + 1)) + 1 by omega, maM, if_neg h] at hR
  exact hR
theorem maM_end {v : StT} {y : MT} (h : lfM v y = 0) : ∀ f, maM v f y = y
  | 0 => rfl
  | f + 1 => by rw [maM, if_pos h]
def wdM (v : StT) (y : MT) (d : Int32) (p : Nat) : Int32 := (S_ts y.2.1 y.2.2.1 &&& (d ^^^ (-1))) &&& (bI (y.2.1 p) ^^^ (-1))
def drM (v : StT) (y : MT) : Nat → Int32 → Int32
  | 0, d => d
  | p + 1, d => if y.2.2.2.2 &&& (S_or v.2.2.1 (wdM v y d p) v.2.1 ^^^ (-1)) = 0 then drM v y p (d ||| bI (y.2.1 p)) else drM v y p d
theorem drM_s {v : StT} {y : MT} {a : Nat} (h : 0 < a) (d : Int32) : drM v y a d = if y.2.2.2.2 &&& (S_or v.2.2.1 (wdM v y d (a - 1)) v.2.1 ^^^ (-1)) = 0 then drM v y (a - 1) (d ||| bI (y.2.1 (a - 1))) else drM v y (a - 1) d := by
  obtain ⟨b, rfl⟩ : ∃ b, a = b + 1 := ⟨a - 1, by omega⟩
  rfl
def DM (v : StT) (o : Nat → Nat) : Int32 := drM v (RM v o) (RM v o).2.2.1 0
def qShM (v : StT) (o : Nat → Nat) (j : Nat) (w : Int32) : Int32 := if hasM v = true then (if w = 3 then (if v.2.2.2.2 j = 0 then S_fl (v.2.2.1 j &&& (RM v o).2.2.2.2) (RM v o).1 18 else 0) else if w = 4 then (if 0 ≤ oN (S_po (RM v o).2.1 j (RM v o).2.2.1) then 1 else 0) else if w = 5 then oN (S_po (RM v o).2.1 j (RM v o).2.2.1) else jb (bt (DM v o) j)) else -5

set_option maxHeartbeats 4000000 in
set_option maxRecDepth 100000 in
theorem c_X9_filling (g : jG) (m : Nat) (a0 : Nat) (a1 : Nat) (a3 : Nat) (a4 : Nat) (a5 : Nat) (a7 : Nat) (a8 : Nat) (a10 : Nat) (a11 : Nat) (un : Nat) (sg : Nat) (mn : Nat) (ti : Nat) (dr : Int32) (rd : Nat) (op : Int32) (v : StT) (ra : Nat → Int32) (k : Nat) (hk : k < 15) : jMI g yX9_filling cX9_filling 4 .int 1 21 [.ref m, .int (nI k)] [(m, .inr (9, [.ref a0, .ref a1, .int (nI un), .ref a3, .ref a4, .ref a5, .int (nI sg), .ref a7, .ref a8, .int (nI mn), .ref a10, .ref a11, .int (nI ti), .int dr, .int (nI rd), .int op])), (a0, .inl (gI g, 60, .inl (nowF v))), (a10, .inl (gI g, 18, .inl ra))] (fun rz wz => rz = S_fl (v.2.2.1 k &&& op) ra 18 ∧ wz = [(m, .inr (9, [.ref a0, .ref a1, .int (nI un), .ref a3, .ref a4, .ref a5, .int (nI sg), .ref a7, .ref a8, .int (nI mn), .ref a10, .ref a11, .int (nI ti), .int dr, .int (nI rd), .int op])), (a0, .inl (gI g, 60, .inl (nowF v))), (a10, .inl (gI g, 18, .inl ra))]) := by
  refine jMI.intro (by decide +kernel) (Nat.le_of_ble_eq_true rfl) (fun x hX hQ => ?_)
  refine j_lv (lv2 := [(0, .ref m), (1, .int (nI k))]) rfl ?_
  refine j_iconst (v := 0) (pc := 0) hX dX9_filling_0 (by decide) ?_
  refine j_istore_n (lv2 := [(0, .ref m), (1, .int (nI k)), (2, .int 0)]) (pc := 1) hX dX9_filling_1 [1, 2, 0] (by decide) rfl ?_
  refine j_iconst (v := 0) (pc := 2) hX dX9_filling_2 (by decide) ?_
  refine j_istore_n (lv2 := [(0, .ref m), (1, .int (nI k)), (2, .int 0), (3, .int 0)]) (pc := 3) hX dX9_filling_3 [1, 2, 3, 0] (by decide) rfl ?_
  have L4 : ∀ (d : Nat) (t : Nat), t ≤ 18 → 18 - t = d → J g x 4 0 0 4 [(0, .ref m), (1, .int (nI k)), (2, .int (S_fl (v.2.2.1 k &&& op) ra t)), (3, .int (nI t))] [] [(m, .inr (9, [.ref a0, .ref a1, .int (nI un), .ref a3, .ref a4, .ref a5, .int (nI sg), .ref a7, .ref a8, .int (nI mn), .ref a10, .ref a11, .int (nI ti), .int dr, .int (nI rd), .int op])), (a0, .inl (gI g, 60, .inl (nowF v))), (a10, .inl (gI g, 18, .inl ra))] := by
    intro d
    induction d using Nat.strongRecOn with
    | _ d ih4 =>
      intro t ht hd4
      refine j_iload_n (pc := 4) hX dX9_filling_4 3 rfl ?_
      refine j_bipush (v := 18) (pc := 5) hX dX9_filling_5 (by decide) ?_
      refine j_icmp_ge (tgt := 46) (pc := 7) hX dX9_filling_7 (by decide) (fun c7_1 => ?_) (fun c7_1 => ?_)
      · skip
        have c7_1n : 18 ≤ t := (nI_leI (a := 18) (b := t) (by omega) (by omega)).mp c7_1
        have c7_1m : ¬ t < 18 := by omega
        refine j_iload_n (pc := 46) hX dX9_filling_46 2 rfl ?_
        exact j_iret (pc := 47) hX hQ dX9_filling_47 rfl ⟨(by rw [show t = 18 by omega]), (by first | rfl | first | (simp only [jb_t, jb_f, c7_1, c7_1n, c7_1m, reduceIte, eq_self, decide_true, decide_false, Bool.and_true, Bool.true_and, Bool.and_false, Bool.false_and, Bool.and_self, not_true_eq_false, not_false_eq_true, and_true, true_and, and_false, false_and, and_self]; done) | (simp [jb_t, jb_f, c7_1, c7_1n, c7_1m]; done))⟩
      · skip
        have c7_1n : ¬ 18 ≤ t := fun h9 => c7_1 ((nI_leI (a := 18) (b := t) (by omega) (by omega)).mpr h9)
        have c7_1m : t < 18 := by omega
        refine j_iload_n (pc := 10) hX dX9_filling_10 2 rfl ?_
        refine j_aload_n (pc := 11) hX dX9_filling_11 0 rfl ?_
        refine j_iload_n (pc := 12) hX dX9_filling_12 1 rfl ?_
        refine j_callVI (n := 1) (As := [.int (nI k)]) (rest := [.int (S_fl (v.2.2.1 k &&& op) ra t)]) (pc := 13) hX (c_X9_things g m a0 a1 a3 a4 a5 a7 a8 a10 a11 un sg mn ti dr rd op v k (by first | assumption | omega)) (CV.of mw695 mw696 mw24 mw52 mw697 ⟨rfl, by decide +kernel, by decide +kernel, by decide +kernel⟩ (T := TX9) (N := 16) rfl) (Nat.le_of_ble_eq_true rfl) (Nat.le_of_ble_eq_true rfl) (Nat.le_of_ble_eq_true rfl) (Nat.le_of_ble_eq_true rfl) 0 rfl [0, 1] (by decide +kernel) rfl rfl rfl (Nat.le_of_ble_eq_true rfl) dX9_filling_13 (fun r2 wz hq3 => ?_)
        obtain ⟨rfl, rfl⟩ := hq3
        refine j_ws (ws2 := [(m, .inr (9, [.ref a0, .ref a1, .int (nI un), .ref a3, .ref a4, .ref a5, .int (nI sg), .ref a7, .ref a8, .int (nI mn), .ref a10, .ref a11, .int (nI ti), .int dr, .int (nI rd), .int op])), (a0, .inl (gI g, 60, .inl (nowF v))), (a10, .inl (gI g, 18, .inl ra))]) rfl ?_
        refine j_aload_n (pc := 16) hX dX9_filling_16 0 rfl ?_
        refine j_get (ci := 9) (pc := 17) hX inG9 rfl 15 (by decide) mw639 0 rfl rfl dX9_filling_17 ?_
        refine j_iand (pc := 20) hX dX9_filling_20 ?_
        refine j_iload_n (pc := 21) hX dX9_filling_21 3 rfl ?_
        refine j_callSI (n := 2) (As := [.int ((v.2.2.1 k) &&& op), .int (nI t)]) (rest := [.int (S_fl (v.2.2.1 k &&& op) ra t)]) (pc := 22) hX (c_X9_has g ((v.2.2.1 k) &&& op) t (by first | assumption | omega)) (CS.of mw738 mw739 mw52 mw740 ⟨by decide +kernel, by decide +kernel, by decide +kernel⟩) (Nat.le_of_ble_eq_true rfl) (Nat.le_of_ble_eq_true rfl) (Nat.le_of_ble_eq_true rfl) (Nat.le_of_ble_eq_true rfl) [] (by decide +kernel) rfl rfl rfl (Nat.le_of_ble_eq_true rfl) dX9_filling_22 (fun r4 wz hq5 => ?_)
        obtain ⟨rfl, rfl⟩ := hq5
        refine j_ws (ws2 := [(m, .inr (9, [.ref a0, .ref a1, .int (nI un), .ref a3, .ref a4, .ref a5, .int (nI sg), .ref a7, .ref a8, .int (nI mn), .ref a10, .ref a11, .int (nI ti), .int dr, .int (nI rd), .int op])), (a0, .inl (gI g, 60, .inl (nowF v))), (a10, .inl (gI g, 18, .inl ra))]) rfl ?_
        refine j_if_eq (tgt := 37) (pc := 25) hX dX9_filling_25 (by decide) (fun c25_6 => ?_) (fun c25_6 => ?_)
        · skip
          have c25_6b : (bt ((v.2.2.1 k) &&& op) t) = false := jb_0.mp c25_6
          refine j_iconst (v := 0) (pc := 37) hX dX9_filling_37 (by decide) ?_
          refine j_iadd (pc := 38) hX dX9_filling_38 ?_
          refine j_istore_n (lv2 := [(0, .ref m), (1, .int (nI k)), (2, .int ((S_fl (v.2.2.1 k &&& op) ra t) + 0)), (3, .int (nI t))]) (pc := 39) hX dX9_filling_39 [1, 2, 0, 3] (by decide) rfl ?_
          refine j_iinc (v := nI (t + 1)) (lv2 := [(0, .ref m), (1, .int (nI k)), (2, .int ((S_fl (v.2.2.1 k &&& op) ra t) + 0)), (3, .int (nI (t + 1)))]) (pc := 40) hX dX9_filling_40 3 rfl (nI_add t 1) [1, 2, 3, 0] (by decide) rfl ?_
          refine j_goto (tgt := 4) (pc := 43) hX dX9_filling_43 (by decide) ?_
          exact j_eq (lv2 := [(0, .ref m), (1, .int (nI k)), (2, .int (S_fl (v.2.2.1 k &&& op) ra (t + 1))), (3, .int (nI (t + 1)))]) (ws2 := [(m, .inr (9, [.ref a0, .ref a1, .int (nI un), .ref a3, .ref a4, .ref a5, .int (nI sg), .ref a7, .ref a8, .int (nI mn), .ref a10, .ref a11, .int (nI ti), .int dr, .int (nI rd), .int op])), (a0, .inl (gI g, 60, .inl (nowF v))), (a10, .inl (gI g, 18, .inl ra))]) (by first | rfl | (simp only [S_fl, add0, c7_1, c7_1n, c7_1m, c25_6, c25_6b, reduceIte]; first | done | rfl) | (rw [S_fl, if_neg (nbt c25_6b), add0])) (by first | rfl | (simp only [S_fl, add0, c7_1, c7_1n, c7_1m, c25_6, c25_6b, reduceIte]; first | done | rfl) | (rw [S_fl, if_neg (nbt c25_6b), add0])) (ih4 _ (by omega) (t + 1) (by omega) rfl)
        · skip
          have c25_6b : (bt ((v.2.2.1 k) &&& op) t) = true := jb_1.mp c25_6
          refine j_aload_n (pc := 28) hX dX9_filling_28 0 rfl ?_
          refine j_get (ci := 9) (pc := 29) hX inG9 rfl 10 (by decide) mw634 0 rfl rfl dX9_filling_29 ?_
          refine j_iload_n (pc := 32) hX dX9_filling_32 3 rfl ?_
          refine j_iald (pc := 33) hX 2 rfl t rfl (by omega) (by omega) dX9_filling_33 ?_
          refine j_goto (tgt := 38) (pc := 34) hX dX9_filling_34 (by decide) ?_
          refine j_iadd (pc := 38) hX dX9_filling_38 ?_
          refine j_istore_n (lv2 := [(0, .ref m), (1, .int (nI k)), (2, .int ((S_fl (v.2.2.1 k &&& op) ra t) + (ra t))), (3, .int (nI t))]) (pc := 39) hX dX9_filling_39 [1, 2, 0, 3] (by decide) rfl ?_
          refine j_iinc (v := nI (t + 1)) (lv2 := [(0, .ref m), (1, .int (nI k)), (2, .int ((S_fl (v.2.2.1 k &&& op) ra t) + (ra t))), (3, .int (nI (t + 1)))]) (pc := 40) hX dX9_filling_40 3 rfl (nI_add t 1) [1, 2, 3, 0] (by decide) rfl ?_
          refine j_goto (tgt := 4) (pc := 43) hX dX9_filling_43 (by decide) ?_
          exact j_eq (lv2 := [(0, .ref m), (1, .int (nI k)), (2, .int (S_fl (v.2.2.1 k &&& op) ra (t + 1))), (3, .int (nI (t + 1)))]) (ws2 := [(m, .inr (9, [.ref a0, .ref a1, .int (nI un), .ref a3, .ref a4, .ref a5, .int (nI sg), .ref a7, .ref a8, .int (nI mn), .ref a10, .ref a11, .int (nI ti), .int dr, .int (nI rd), .int op])), (a0, .inl (gI g, 60, .inl (nowF v))), (a10, .inl (gI g, 18, .inl ra))]) (by first | rfl | (simp only [S_fl, add0, c7_1, c7_1n, c7_1m, c25_6, c25_6b, reduceIte]; first | done | rfl) | (rw [S_fl, if_neg (nbt c25_6b), add0])) (by first | rfl | (simp only [S_fl, add0, c7_1, c7_1n, c7_1m, c25_6, c25_6b, reduceIte]; first | done | rfl) | (rw [S_fl, if_neg (nbt c25_6b), add0])) (ih4 _ (by omega) (t + 1) (by omega) rfl)
  exact j_eq (lv2 := [(0, .ref m), (1, .int (nI k)), (2, .int (S_fl (v.2.2.1 k &&& op) ra 0)), (3, .int (nI 0))]) (ws2 := [(m, .inr (9, [.ref a0, .ref a1, .int (nI un), .ref a3, .ref a4, .ref a5, .int (nI sg), .ref a7, .ref a8, .int (nI mn), .ref a10, .ref a11, .int (nI ti), .int dr, .int (nI rd), .int op])), (a0, .inl (gI g, 60, .inl (nowF v))), (a10, .inl (gI g, 18, .inl ra))]) (rfl) (rfl) (L4 _ 0 (by omega) rfl)

set_option maxHeartbeats 4000000 in
set_option maxRecDepth 100000 in
theorem c_X9_placeOf (g : jG) (m : Nat) (a0 : Nat) (a1 : Nat) (a3 : Nat) (a4 : Nat) (a5 : Nat) (a7 : Nat) (a8 : Nat) (a10 : Nat) (a11 : Nat) (un : Nat) (sg : Nat) (mn : Nat) (ti : Nat) (dr : Int32) (rd : Nat) (op : Int32) (o : Nat → Nat) (k : Nat) (hti : ti ≤ 14) (ho : ∀ j, o j < 100) (hk : k < 100) : jMI g yX9_placeOf cX9_placeOf 4 .int 0 0 [.ref m, .int (nI k)] [(m, .inr (9, [.ref a0, .ref a1, .int (nI un), .ref a3, .ref a4, .ref a5, .int (nI sg), .ref a7, .ref a8, .int (nI mn), .ref a10, .ref a11, .int (nI ti), .int dr, .int (nI rd), .int op])), (a11, .inl (gI g, 14, .inl (oI o)))] (fun rz wz => rz = oN (S_po o k ti) ∧ wz = [(m, .inr (9, [.ref a0, .ref a1, .int (nI un), .ref a3, .ref a4, .ref a5, .int (nI sg), .ref a7, .ref a8, .int (nI mn), .ref a10, .ref a11, .int (nI ti), .int dr, .int (nI rd), .int op])), (a11, .inl (gI g, 14, .inl (oI o)))]) := by
  refine jMI.intro (by decide +kernel) (Nat.le_of_ble_eq_true rfl) (fun x hX hQ => ?_)
  refine j_lv (lv2 := [(0, .ref m), (1, .int (nI k))]) rfl ?_
  refine j_bipush (v := (-6)) (pc := 0) hX dX9_placeOf_0 (by decide) ?_
  refine j_istore_n (lv2 := [(0, .ref m), (1, .int (nI k)), (2, .int (-6))]) (pc := 2) hX dX9_placeOf_2 [1, 2, 0] (by decide) rfl ?_
  refine j_iconst (v := 0) (pc := 3) hX dX9_placeOf_3 (by decide) ?_
  refine j_istore_n (lv2 := [(0, .ref m), (1, .int (nI k)), (2, .int (-6)), (3, .int 0)]) (pc := 4) hX dX9_placeOf_4 [1, 2, 3, 0] (by decide) rfl ?_
  have L5 : ∀ (d : Nat) (i : Nat), i ≤ ti → ti - i = d → J g x 4 0 0 5 [(0, .ref m), (1, .int (nI k)), (2, .int (oN (S_po o k i))), (3, .int (nI i))] [] [(m, .inr (9, [.ref a0, .ref a1, .int (nI un), .ref a3, .ref a4, .ref a5, .int (nI sg), .ref a7, .ref a8, .int (nI mn), .ref a10, .ref a11, .int (nI ti), .int dr, .int (nI rd), .int op])), (a11, .inl (gI g, 14, .inl (oI o)))] := by
    intro d
    induction d using Nat.strongRecOn with
    | _ d ih5 =>
      intro i hi hd5
      refine j_iload_n (pc := 5) hX dX9_placeOf_5 3 rfl ?_
      refine j_aload_n (pc := 6) hX dX9_placeOf_6 0 rfl ?_
      refine j_get (ci := 9) (pc := 7) hX inG9 rfl 12 (by decide) mw636 0 rfl rfl dX9_placeOf_7 ?_
      refine j_icmp_ge (tgt := 35) (pc := 10) hX dX9_placeOf_10 (by decide) (fun c10_1 => ?_) (fun c10_1 => ?_)
      · skip
        have c10_1n : ti ≤ i := (nI_leI (a := ti) (b := i) (by omega) (by omega)).mp c10_1
        have c10_1m : ¬ i < ti := by omega
        refine j_iload_n (pc := 35) hX dX9_placeOf_35 2 rfl ?_
        exact j_iret (pc := 36) hX hQ dX9_placeOf_36 rfl ⟨(by rw [show i = ti by omega]), (by first | rfl | first | (simp only [jb_t, jb_f, c10_1, c10_1n, c10_1m, reduceIte, eq_self, decide_true, decide_false, Bool.and_true, Bool.true_and, Bool.and_false, Bool.false_and, Bool.and_self, not_true_eq_false, not_false_eq_true, and_true, true_and, and_false, false_and, and_self]; done) | (simp [jb_t, jb_f, c10_1, c10_1n, c10_1m]; done))⟩
      · skip
        have c10_1n : ¬ ti ≤ i := fun h9 => c10_1 ((nI_leI (a := ti) (b := i) (by omega) (by omega)).mpr h9)
        have c10_1m : i < ti := by omega
        have ho5 := ho i
        refine j_aload_n (pc := 13) hX dX9_placeOf_13 0 rfl ?_
        refine j_get (ci := 9) (pc := 14) hX inG9 rfl 11 (by decide) mw635 0 rfl rfl dX9_placeOf_14 ?_
        refine j_iload_n (pc := 17) hX dX9_placeOf_17 3 rfl ?_
        refine j_iald (pc := 18) hX 1 rfl i rfl (by omega) (by omega) dX9_placeOf_18 ?_
        refine j_top (b := nI (o i)) (rfl) ?_
        refine j_iload_n (pc := 19) hX dX9_placeOf_19 1 rfl ?_
        refine j_icmp_ne (tgt := 27) (pc := 20) hX dX9_placeOf_20 (by decide) (fun c20_2 => ?_) (fun c20_2 => ?_)
        · skip
          have c20_2n : ¬ (o i) = k := fun h9 => c20_2 ((nI_eq (a := (o i)) (b := k) (by omega) (by omega)).mpr h9)
          refine j_iload_n (pc := 27) hX dX9_placeOf_27 2 rfl ?_
          refine j_istore_n (lv2 := [(0, .ref m), (1, .int (nI k)), (2, .int (oN (S_po o k i))), (3, .int (nI i))]) (pc := 28) hX dX9_placeOf_28 [1, 2, 0, 3] (by decide) rfl ?_
          refine j_iinc (v := nI (i + 1)) (lv2 := [(0, .ref m), (1, .int (nI k)), (2, .int (oN (S_po o k i))), (3, .int (nI (i + 1)))]) (pc := 29) hX dX9_placeOf_29 3 rfl (nI_add i 1) [1, 2, 3, 0] (by decide) rfl ?_
          refine j_goto (tgt := 5) (pc := 32) hX dX9_placeOf_32 (by decide) ?_
          exact j_eq (lv2 := [(0, .ref m), (1, .int (nI k)), (2, .int (oN (S_po o k (i + 1)))), (3, .int (nI (i + 1)))]) (ws2 := [(m, .inr (9, [.ref a0, .ref a1, .int (nI un), .ref a3, .ref a4, .ref a5, .int (nI sg), .ref a7, .ref a8, .int (nI mn), .ref a10, .ref a11, .int (nI ti), .int dr, .int (nI rd), .int op])), (a11, .inl (gI g, 14, .inl (oI o)))]) (by first | rfl | (rw [S_po, if_pos c20_2n]; rfl) | (rw [S_po, if_neg c20_2n])) (by first | rfl | (rw [S_po, if_pos c20_2n]; rfl) | (rw [S_po, if_neg c20_2n])) (ih5 _ (by omega) (i + 1) (by omega) rfl)
        · skip
          have c20_2n : (o i) = k := (nI_eq (a := (o i)) (b := k) (by omega) (by omega)).mp c20_2
          refine j_iload_n (pc := 23) hX dX9_placeOf_23 3 rfl ?_
          refine j_goto (tgt := 28) (pc := 24) hX dX9_placeOf_24 (by decide) ?_
          refine j_istore_n (lv2 := [(0, .ref m), (1, .int (nI k)), (2, .int (nI i)), (3, .int (nI i))]) (pc := 28) hX dX9_placeOf_28 [1, 2, 0, 3] (by decide) rfl ?_
          refine j_iinc (v := nI (i + 1)) (lv2 := [(0, .ref m), (1, .int (nI k)), (2, .int (nI i)), (3, .int (nI (i + 1)))]) (pc := 29) hX dX9_placeOf_29 3 rfl (nI_add i 1) [1, 2, 3, 0] (by decide) rfl ?_
          refine j_goto (tgt := 5) (pc := 32) hX dX9_placeOf_32 (by decide) ?_
          exact j_eq (lv2 := [(0, .ref m), (1, .int (nI k)), (2, .int (oN (S_po o k (i + 1)))), (3, .int (nI (i + 1)))]) (ws2 := [(m, .inr (9, [.ref a0, .ref a1, .int (nI un), .ref a3, .ref a4, .ref a5, .int (nI sg), .ref a7, .ref a8, .int (nI mn), .ref a10, .ref a11, .int (nI ti), .int dr, .int (nI rd), .int op])), (a11, .inl (gI g, 14, .inl (oI o)))]) (by first | rfl | (rw [S_po, if_pos c20_2n]; rfl) | (rw [S_po, if_neg c20_2n])) (by first | rfl | (rw [S_po, if_pos c20_2n]; rfl) | (rw [S_po, if_neg c20_2n])) (ih5 _ (by omega) (i + 1) (by omega) rfl)
  exact j_eq (lv2 := [(0, .ref m), (1, .int (nI k)), (2, .int (oN (S_po o k 0))), (3, .int (nI 0))]) (ws2 := [(m, .inr (9, [.ref a0, .ref a1, .int (nI un), .ref a3, .ref a4, .ref a5, .int (nI sg), .ref a7, .ref a8, .int (nI mn), .ref a10, .ref a11, .int (nI ti), .int dr, .int (nI rd), .int op])), (a11, .inl (gI g, 14, .inl (oI o)))]) (rfl) (rfl) (L5 _ 0 (by omega) rfl)

set_option maxHeartbeats 4000000 in
set_option maxRecDepth 100000 in
theorem c_X9_tightSets (g : jG) (m : Nat) (a0 : Nat) (a1 : Nat) (a3 : Nat) (a4 : Nat) (a5 : Nat) (a7 : Nat) (a8 : Nat) (a10 : Nat) (a11 : Nat) (un : Nat) (sg : Nat) (mn : Nat) (ti : Nat) (dr : Int32) (rd : Nat) (op : Int32) (o : Nat → Nat) (hti : ti ≤ 14) : jMI g yX9_tightSets cX9_tightSets 3 .int 0 0 [.ref m] [(m, .inr (9, [.ref a0, .ref a1, .int (nI un), .ref a3, .ref a4, .ref a5, .int (nI sg), .ref a7, .ref a8, .int (nI mn), .ref a10, .ref a11, .int (nI ti), .int dr, .int (nI rd), .int op])), (a11, .inl (gI g, 14, .inl (oI o)))] (fun rz wz => rz = S_ts o ti ∧ wz = [(m, .inr (9, [.ref a0, .ref a1, .int (nI un), .ref a3, .ref a4, .ref a5, .int (nI sg), .ref a7, .ref a8, .int (nI mn), .ref a10, .ref a11, .int (nI ti), .int dr, .int (nI rd), .int op])), (a11, .inl (gI g, 14, .inl (oI o)))]) := by
  refine jMI.intro (by decide +kernel) (Nat.le_of_ble_eq_true rfl) (fun x hX hQ => ?_)
  refine j_lv (lv2 := [(0, .ref m)]) rfl ?_
  refine j_iconst (v := 0) (pc := 0) hX dX9_tightSets_0 (by decide) ?_
  refine j_istore_n (lv2 := [(0, .ref m), (1, .int 0)]) (pc := 1) hX dX9_tightSets_1 [1, 0] (by decide) rfl ?_
  refine j_iconst (v := 0) (pc := 2) hX dX9_tightSets_2 (by decide) ?_
  refine j_istore_n (lv2 := [(0, .ref m), (1, .int 0), (2, .int 0)]) (pc := 3) hX dX9_tightSets_3 [1, 2, 0] (by decide) rfl ?_
  have L4 : ∀ (d : Nat) (i : Nat), i ≤ ti → ti - i = d → J g x 3 0 0 4 [(0, .ref m), (1, .int (S_ts o i)), (2, .int (nI i))] [] [(m, .inr (9, [.ref a0, .ref a1, .int (nI un), .ref a3, .ref a4, .ref a5, .int (nI sg), .ref a7, .ref a8, .int (nI mn), .ref a10, .ref a11, .int (nI ti), .int dr, .int (nI rd), .int op])), (a11, .inl (gI g, 14, .inl (oI o)))] := by
    intro d
    induction d using Nat.strongRecOn with
    | _ d ih4 =>
      intro i hi hd4
      refine j_iload_n (pc := 4) hX dX9_tightSets_4 2 rfl ?_
      refine j_aload_n (pc := 5) hX dX9_tightSets_5 0 rfl ?_
      refine j_get (ci := 9) (pc := 6) hX inG9 rfl 12 (by decide) mw636 0 rfl rfl dX9_tightSets_6 ?_
      refine j_icmp_ge (tgt := 29) (pc := 9) hX dX9_tightSets_9 (by decide) (fun c9_1 => ?_) (fun c9_1 => ?_)
      · skip
        have c9_1n : ti ≤ i := (nI_leI (a := ti) (b := i) (by omega) (by omega)).mp c9_1
        have c9_1m : ¬ i < ti := by omega
        refine j_iload_n (pc := 29) hX dX9_tightSets_29 1 rfl ?_
        exact j_iret (pc := 30) hX hQ dX9_tightSets_30 rfl ⟨(by rw [show i = ti by omega]), (by first | rfl | first | (simp only [jb_t, jb_f, c9_1, c9_1n, c9_1m, reduceIte, eq_self, decide_true, decide_false, Bool.and_true, Bool.true_and, Bool.and_false, Bool.false_and, Bool.and_self, not_true_eq_false, not_false_eq_true, and_true, true_and, and_false, false_and, and_self]; done) | (simp [jb_t, jb_f, c9_1, c9_1n, c9_1m]; done))⟩
      · skip
        have c9_1n : ¬ ti ≤ i := fun h9 => c9_1 ((nI_leI (a := ti) (b := i) (by omega) (by omega)).mpr h9)
        have c9_1m : i < ti := by omega
        refine j_iload_n (pc := 12) hX dX9_tightSets_12 1 rfl ?_
        refine j_iconst (v := 1) (pc := 13) hX dX9_tightSets_13 (by decide) ?_
        refine j_aload_n (pc := 14) hX dX9_tightSets_14 0 rfl ?_
        refine j_get (ci := 9) (pc := 15) hX inG9 rfl 11 (by decide) mw635 0 rfl rfl dX9_tightSets_15 ?_
        refine j_iload_n (pc := 18) hX dX9_tightSets_18 2 rfl ?_
        refine j_iald (pc := 19) hX 1 rfl i rfl (by omega) (by omega) dX9_tightSets_19 ?_
        refine j_top (b := nI (o i)) (rfl) ?_
        refine j_ishl (pc := 20) hX dX9_tightSets_20 ?_
        refine j_top (b := bI (o i)) rfl ?_
        refine j_ior (pc := 21) hX dX9_tightSets_21 ?_
        refine j_istore_n (lv2 := [(0, .ref m), (1, .int ((S_ts o i) ||| (bI (o i)))), (2, .int (nI i))]) (pc := 22) hX dX9_tightSets_22 [1, 0, 2] (by decide) rfl ?_
        refine j_iinc (v := nI (i + 1)) (lv2 := [(0, .ref m), (1, .int ((S_ts o i) ||| (bI (o i)))), (2, .int (nI (i + 1)))]) (pc := 23) hX dX9_tightSets_23 2 rfl (nI_add i 1) [1, 2, 0] (by decide) rfl ?_
        refine j_goto (tgt := 4) (pc := 26) hX dX9_tightSets_26 (by decide) ?_
        exact j_eq (lv2 := [(0, .ref m), (1, .int (S_ts o (i + 1))), (2, .int (nI (i + 1)))]) (ws2 := [(m, .inr (9, [.ref a0, .ref a1, .int (nI un), .ref a3, .ref a4, .ref a5, .int (nI sg), .ref a7, .ref a8, .int (nI mn), .ref a10, .ref a11, .int (nI ti), .int dr, .int (nI rd), .int op])), (a11, .inl (gI g, 14, .inl (oI o)))]) (by first | rfl | first | (simp only [jb_t, jb_f, c9_1, c9_1n, c9_1m, reduceIte, eq_self, decide_true, decide_false, Bool.and_true, Bool.true_and, Bool.and_false, Bool.false_and, Bool.and_self, not_true_eq_false, not_false_eq_true, and_true, true_and, and_false, false_and, and_self]; done) | (simp [jb_t, jb_f, c9_1, c9_1n, c9_1m]; done)) (by first | rfl | first | (simp only [jb_t, jb_f, c9_1, c9_1n, c9_1m, reduceIte, eq_self, decide_true, decide_false, Bool.and_true, Bool.true_and, Bool.and_false, Bool.false_and, Bool.and_self, not_true_eq_false, not_false_eq_true, and_true, true_and, and_false, false_and, and_self]; done) | (simp [jb_t, jb_f, c9_1, c9_1n, c9_1m]; done)) (ih4 _ (by omega) (i + 1) (by omega) rfl)
  exact j_eq (lv2 := [(0, .ref m), (1, .int (S_ts o 0)), (2, .int (nI 0))]) (ws2 := [(m, .inr (9, [.ref a0, .ref a1, .int (nI un), .ref a3, .ref a4, .ref a5, .int (nI sg), .ref a7, .ref a8, .int (nI mn), .ref a10, .ref a11, .int (nI ti), .int dr, .int (nI rd), .int op])), (a11, .inl (gI g, 14, .inl (oI o)))]) (rfl) (rfl) (L4 _ 0 (by omega) rfl)

set_option maxHeartbeats 4000000 in
set_option maxRecDepth 100000 in
theorem c_X9_tighten (g : jG) (m : Nat) (a0 : Nat) (a1 : Nat) (a3 : Nat) (a4 : Nat) (a5 : Nat) (a7 : Nat) (a8 : Nat) (a10 : Nat) (a11 : Nat) (un : Nat) (sg : Nat) (mn : Nat) (dr : Int32) (rd : Nat) (op : Int32) (v : StT) (ra : Nat → Int32) (p : OT) (hv : v.2.1 ≤ 14) (hT : TI v p) : jMV g yX9_tighten cX9_tighten 2 2 44 0 0 [.ref m] [(m, .inr (9, [.ref a0, .ref a1, .int (nI un), .ref a3, .ref a4, .ref a5, .int (nI sg), .ref a7, .ref a8, .int (nI mn), .ref a10, .ref a11, .int (nI p.2), .int dr, .int (nI rd), .int op])), (a0, .inl (gI g, 60, .inl (nowF v))), (a10, .inl (gI g, 18, .inl ra)), (a11, .inl (gI g, 14, .inl (oI p.1)))] (fun wz wzn => wz = [(m, .inr (9, [.ref a0, .ref a1, .int (nI un), .ref a3, .ref a4, .ref a5, .int (nI sg), .ref a7, .ref a8, .int (nI mn), .ref a10, .ref a11, .int (nI ((tG v op ra p v.2.1).2)), .int dr, .int (nI rd), .int op])), (a0, .inl (gI g, 60, .inl (nowF v))), (a10, .inl (gI g, 18, .inl ra)), (a11, .inl (gI g, 14, .inl (oI ((tG v op ra p v.2.1).1))))] ∧ wzn = []) := by
  refine jMV.intro (by decide +kernel) (Nat.le_of_ble_eq_true rfl) (fun x hX hQ hN => ?_)
  refine j_lv (lv2 := [(0, .ref m)]) rfl ?_
  refine j_iconst (v := 0) (pc := 0) hX dX9_tighten_0 (by decide) ?_
  refine j_istore_n (lv2 := [(0, .ref m), (1, .int 0)]) (pc := 1) hX dX9_tighten_1 [1, 0] (by decide) rfl ?_
  have L2 : ∀ (d : Nat) (k : Nat), k ≤ v.2.1 → v.2.1 - k = d → J g x 2 0 0 2 [(0, .ref m), (1, .int (nI k))] [] [(m, .inr (9, [.ref a0, .ref a1, .int (nI un), .ref a3, .ref a4, .ref a5, .int (nI sg), .ref a7, .ref a8, .int (nI mn), .ref a10, .ref a11, .int (nI ((tG v op ra p k).2)), .int dr, .int (nI rd), .int op])), (a0, .inl (gI g, 60, .inl (nowF v))), (a10, .inl (gI g, 18, .inl ra)), (a11, .inl (gI g, 14, .inl (oI ((tG v op ra p k).1))))] := by
    intro d
    induction d using Nat.strongRecOn with
    | _ d ih2 =>
      intro k hk hd2
      refine j_iload_n (pc := 2) hX dX9_tighten_2 1 rfl ?_
      refine j_aload_n (pc := 3) hX dX9_tighten_3 0 rfl ?_
      refine j_get (ci := 9) (pc := 4) hX inG9 rfl 0 (by decide) mw624 0 rfl rfl dX9_tighten_4 ?_
      refine j_iconst (v := 0) (pc := 7) hX dX9_tighten_7 (by decide) ?_
      refine j_iald (pc := 8) hX 1 rfl 0 rfl (by omega) (by omega) dX9_tighten_8 ?_
      refine j_top (b := nI v.2.1) (rfl) ?_
      refine j_icmp_ge (tgt := 67) (pc := 9) hX dX9_tighten_9 (by decide) (fun c9_1 => ?_) (fun c9_1 => ?_)
      · skip
        have c9_1n : v.2.1 ≤ k := (nI_leI (a := v.2.1) (b := k) (by omega) (by omega)).mp c9_1
        have c9_1m : ¬ k < v.2.1 := by omega
        exact j_vret (pc := 67) hX hQ dX9_tighten_67 [(m, .inr (9, [.ref a0, .ref a1, .int (nI un), .ref a3, .ref a4, .ref a5, .int (nI sg), .ref a7, .ref a8, .int (nI mn), .ref a10, .ref a11, .int (nI ((tG v op ra p k).2)), .int dr, .int (nI rd), .int op])), (a0, .inl (gI g, 60, .inl (nowF v))), (a10, .inl (gI g, 18, .inl ra)), (a11, .inl (gI g, 14, .inl (oI ((tG v op ra p k).1))))] [] rfl rfl ⟨(by rw [show k = v.2.1 by omega]), (rfl)⟩
      · skip
        have c9_1n : ¬ v.2.1 ≤ k := fun h9 => c9_1 ((nI_leI (a := v.2.1) (b := k) (by omega) (by omega)).mpr h9)
        have c9_1m : k < v.2.1 := by omega
        have hT5 := tG_TI (op := op) (ra := ra) hv hT k (by omega)
        have hT6 := hT5.1
        refine j_aload_n (pc := 12) hX dX9_tighten_12 0 rfl ?_
        refine j_iload_n (pc := 13) hX dX9_tighten_13 1 rfl ?_
        refine j_callVI (n := 1) (As := [.int (nI k)]) (rest := []) (pc := 14) hX (c_X9_markOf g m a0 a1 a3 a4 a5 a7 a8 a10 a11 un sg mn ((tG v op ra p k).2) dr rd op v k (by first | assumption | omega)) (CV.of mw688 mw689 mw23 mw52 mw690 ⟨rfl, by decide +kernel, by decide +kernel, by decide +kernel⟩ (T := TX9) (N := 16) rfl) (Nat.le_of_ble_eq_true rfl) (Nat.le_of_ble_eq_true rfl) (Nat.le_of_ble_eq_true rfl) (Nat.le_of_ble_eq_true rfl) 0 rfl [0, 1] (by decide +kernel) rfl rfl rfl (Nat.le_of_ble_eq_true rfl) dX9_tighten_14 (fun r2 wz hq3 => ?_)
        obtain ⟨rfl, rfl⟩ := hq3
        refine j_ws (ws2 := [(m, .inr (9, [.ref a0, .ref a1, .int (nI un), .ref a3, .ref a4, .ref a5, .int (nI sg), .ref a7, .ref a8, .int (nI mn), .ref a10, .ref a11, .int (nI ((tG v op ra p k).2)), .int dr, .int (nI rd), .int op])), (a0, .inl (gI g, 60, .inl (nowF v))), (a10, .inl (gI g, 18, .inl ra)), (a11, .inl (gI g, 14, .inl (oI ((tG v op ra p k).1))))]) rfl ?_
        refine j_if_ne (tgt := 61) (pc := 17) hX dX9_tighten_17 (by decide) (fun c17_4 => ?_) (fun c17_4 => ?_)
        · skip
          refine j_iinc (v := nI (k + 1)) (lv2 := [(0, .ref m), (1, .int (nI (k + 1)))]) (pc := 61) hX dX9_tighten_61 1 rfl (nI_add k 1) [1, 0] (by decide) rfl ?_
          refine j_goto (tgt := 2) (pc := 64) hX dX9_tighten_64 (by decide) ?_
          exact j_eq (lv2 := [(0, .ref m), (1, .int (nI (k + 1)))]) (ws2 := [(m, .inr (9, [.ref a0, .ref a1, .int (nI un), .ref a3, .ref a4, .ref a5, .int (nI sg), .ref a7, .ref a8, .int (nI mn), .ref a10, .ref a11, .int (nI ((tG v op ra p (k + 1)).2)), .int dr, .int (nI rd), .int op])), (a0, .inl (gI g, 60, .inl (nowF v))), (a10, .inl (gI g, 18, .inl ra)), (a11, .inl (gI g, 14, .inl (oI ((tG v op ra p (k + 1)).1))))]) (by first | rfl | (rw [tG]; (first | rw [if_pos c17_4] | rw [if_neg c17_4] | rw [if_neg (nbt c17_4)]); first | done | rfl) | (rw [tG]; (first | rw [if_pos c17_4] | rw [if_neg c17_4] | rw [if_neg (nbt c17_4)]); rw [← oI_up]; try rfl)) (by first | rfl | (rw [tG]; (first | rw [if_pos c17_4] | rw [if_neg c17_4] | rw [if_neg (nbt c17_4)]); first | done | rfl) | (rw [tG]; (first | rw [if_pos c17_4] | rw [if_neg c17_4] | rw [if_neg (nbt c17_4)]); rw [← oI_up]; try rfl)) (ih2 _ (by omega) (k + 1) (by omega) rfl)
        · skip
          refine j_aload_n (pc := 20) hX dX9_tighten_20 0 rfl ?_
          refine j_iload_n (pc := 21) hX dX9_tighten_21 1 rfl ?_
          refine j_callVI (n := 1) (As := [.int (nI k)]) (rest := []) (pc := 22) hX (c_X9_placeOf g m a0 a1 a3 a4 a5 a7 a8 a10 a11 un sg mn ((tG v op ra p k).2) dr rd op ((tG v op ra p k).1) k (hT6) (hT5.2.1) (by first | assumption | omega)) (CV.of mw756 mw757 mw35 mw52 mw758 ⟨rfl, by decide +kernel, by decide +kernel, by decide +kernel⟩ (T := TX9) (N := 16) rfl) (Nat.le_of_ble_eq_true rfl) (Nat.le_of_ble_eq_true rfl) (Nat.le_of_ble_eq_true rfl) (Nat.le_of_ble_eq_true rfl) 0 rfl [0, 3] (by decide +kernel) rfl rfl rfl (Nat.le_of_ble_eq_true rfl) dX9_tighten_22 (fun r5 wz hq6 => ?_)
          obtain ⟨rfl, rfl⟩ := hq6
          refine j_ws (ws2 := [(m, .inr (9, [.ref a0, .ref a1, .int (nI un), .ref a3, .ref a4, .ref a5, .int (nI sg), .ref a7, .ref a8, .int (nI mn), .ref a10, .ref a11, .int (nI ((tG v op ra p k).2)), .int dr, .int (nI rd), .int op])), (a0, .inl (gI g, 60, .inl (nowF v))), (a10, .inl (gI g, 18, .inl ra)), (a11, .inl (gI g, 14, .inl (oI ((tG v op ra p k).1))))]) rfl ?_
          refine j_if_ge (tgt := 61) (pc := 25) hX dX9_tighten_25 (by decide) (fun c25_7 => ?_) (fun c25_7 => ?_)
          · skip
            refine j_iinc (v := nI (k + 1)) (lv2 := [(0, .ref m), (1, .int (nI (k + 1)))]) (pc := 61) hX dX9_tighten_61 1 rfl (nI_add k 1) [1, 0] (by decide) rfl ?_
            refine j_goto (tgt := 2) (pc := 64) hX dX9_tighten_64 (by decide) ?_
            exact j_eq (lv2 := [(0, .ref m), (1, .int (nI (k + 1)))]) (ws2 := [(m, .inr (9, [.ref a0, .ref a1, .int (nI un), .ref a3, .ref a4, .ref a5, .int (nI sg), .ref a7, .ref a8, .int (nI mn), .ref a10, .ref a11, .int (nI ((tG v op ra p (k + 1)).2)), .int dr, .int (nI rd), .int op])), (a0, .inl (gI g, 60, .inl (nowF v))), (a10, .inl (gI g, 18, .inl ra)), (a11, .inl (gI g, 14, .inl (oI ((tG v op ra p (k + 1)).1))))]) (by first | rfl | (rw [tG]; (first | rw [if_pos c17_4] | rw [if_neg c17_4] | rw [if_neg (nbt c17_4)]); (first | rw [if_pos c25_7] | rw [if_neg c25_7] | rw [if_neg (nbt c25_7)]); first | done | rfl) | (rw [tG]; (first | rw [if_pos c17_4] | rw [if_neg c17_4] | rw [if_neg (nbt c17_4)]); (first | rw [if_pos c25_7] | rw [if_neg c25_7] | rw [if_neg (nbt c25_7)]); rw [← oI_up]; try rfl)) (by first | rfl | (rw [tG]; (first | rw [if_pos c17_4] | rw [if_neg c17_4] | rw [if_neg (nbt c17_4)]); (first | rw [if_pos c25_7] | rw [if_neg c25_7] | rw [if_neg (nbt c25_7)]); first | done | rfl) | (rw [tG]; (first | rw [if_pos c17_4] | rw [if_neg c17_4] | rw [if_neg (nbt c17_4)]); (first | rw [if_pos c25_7] | rw [if_neg c25_7] | rw [if_neg (nbt c25_7)]); rw [← oI_up]; try rfl)) (ih2 _ (by omega) (k + 1) (by omega) rfl)
          · skip
            refine j_aload_n (pc := 28) hX dX9_tighten_28 0 rfl ?_
            refine j_iload_n (pc := 29) hX dX9_tighten_29 1 rfl ?_
            refine j_callVI (n := 1) (As := [.int (nI k)]) (rest := []) (pc := 30) hX (c_X9_filling g m a0 a1 a3 a4 a5 a7 a8 a10 a11 un sg mn ((tG v op ra p k).2) dr rd op v ra k (by first | assumption | omega)) (CV.of mw759 mw760 mw36 mw52 mw761 ⟨rfl, by decide +kernel, by decide +kernel, by decide +kernel⟩ (T := TX9) (N := 16) rfl) (Nat.le_of_ble_eq_true rfl) (Nat.le_of_ble_eq_true rfl) (Nat.le_of_ble_eq_true rfl) (Nat.le_of_ble_eq_true rfl) 0 rfl [0, 1, 2] (by decide +kernel) rfl rfl rfl (Nat.le_of_ble_eq_true rfl) dX9_tighten_30 (fun r8 wz hq9 => ?_)
            obtain ⟨rfl, rfl⟩ := hq9
            refine j_ws (ws2 := [(m, .inr (9, [.ref a0, .ref a1, .int (nI un), .ref a3, .ref a4, .ref a5, .int (nI sg), .ref a7, .ref a8, .int (nI mn), .ref a10, .ref a11, .int (nI ((tG v op ra p k).2)), .int dr, .int (nI rd), .int op])), (a0, .inl (gI g, 60, .inl (nowF v))), (a10, .inl (gI g, 18, .inl ra)), (a11, .inl (gI g, 14, .inl (oI ((tG v op ra p k).1))))]) rfl ?_
            refine j_aload_n (pc := 33) hX dX9_tighten_33 0 rfl ?_
            refine j_iload_n (pc := 34) hX dX9_tighten_34 1 rfl ?_
            refine j_callVI (n := 1) (As := [.int (nI k)]) (rest := [.int (S_fl (v.2.2.1 k &&& op) ra 18)]) (pc := 35) hX (c_X9_priceOf g m a0 a1 a3 a4 a5 a7 a8 a10 a11 un sg mn ((tG v op ra p k).2) dr rd op v k (by first | assumption | omega)) (CV.of mw681 mw682 mw22 mw52 mw683 ⟨rfl, by decide +kernel, by decide +kernel, by decide +kernel⟩ (T := TX9) (N := 16) rfl) (Nat.le_of_ble_eq_true rfl) (Nat.le_of_ble_eq_true rfl) (Nat.le_of_ble_eq_true rfl) (Nat.le_of_ble_eq_true rfl) 0 rfl [0, 1] (by decide +kernel) rfl rfl rfl (Nat.le_of_ble_eq_true rfl) dX9_tighten_35 (fun r10 wz hq11 => ?_)
            obtain ⟨rfl, rfl⟩ := hq11
            refine j_ws (ws2 := [(m, .inr (9, [.ref a0, .ref a1, .int (nI un), .ref a3, .ref a4, .ref a5, .int (nI sg), .ref a7, .ref a8, .int (nI mn), .ref a10, .ref a11, .int (nI ((tG v op ra p k).2)), .int dr, .int (nI rd), .int op])), (a0, .inl (gI g, 60, .inl (nowF v))), (a10, .inl (gI g, 18, .inl ra)), (a11, .inl (gI g, 14, .inl (oI ((tG v op ra p k).1))))]) rfl ?_
            refine j_icmp_ne (tgt := 61) (pc := 38) hX dX9_tighten_38 (by decide) (fun c38_12 => ?_) (fun c38_12 => ?_)
            · skip
              refine j_iinc (v := nI (k + 1)) (lv2 := [(0, .ref m), (1, .int (nI (k + 1)))]) (pc := 61) hX dX9_tighten_61 1 rfl (nI_add k 1) [1, 0] (by decide) rfl ?_
              refine j_goto (tgt := 2) (pc := 64) hX dX9_tighten_64 (by decide) ?_
              exact j_eq (lv2 := [(0, .ref m), (1, .int (nI (k + 1)))]) (ws2 := [(m, .inr (9, [.ref a0, .ref a1, .int (nI un), .ref a3, .ref a4, .ref a5, .int (nI sg), .ref a7, .ref a8, .int (nI mn), .ref a10, .ref a11, .int (nI ((tG v op ra p (k + 1)).2)), .int dr, .int (nI rd), .int op])), (a0, .inl (gI g, 60, .inl (nowF v))), (a10, .inl (gI g, 18, .inl ra)), (a11, .inl (gI g, 14, .inl (oI ((tG v op ra p (k + 1)).1))))]) (by first | rfl | (rw [tG]; (first | rw [if_pos c17_4] | rw [if_neg c17_4] | rw [if_neg (nbt c17_4)]); (first | rw [if_pos c25_7] | rw [if_neg c25_7] | rw [if_neg (nbt c25_7)]); (first | rw [if_pos c38_12] | rw [if_neg c38_12] | rw [if_neg (nbt c38_12)]); first | done | rfl) | (rw [tG]; (first | rw [if_pos c17_4] | rw [if_neg c17_4] | rw [if_neg (nbt c17_4)]); (first | rw [if_pos c25_7] | rw [if_neg c25_7] | rw [if_neg (nbt c25_7)]); (first | rw [if_pos c38_12] | rw [if_neg c38_12] | rw [if_neg (nbt c38_12)]); rw [← oI_up]; try rfl)) (by first | rfl | (rw [tG]; (first | rw [if_pos c17_4] | rw [if_neg c17_4] | rw [if_neg (nbt c17_4)]); (first | rw [if_pos c25_7] | rw [if_neg c25_7] | rw [if_neg (nbt c25_7)]); (first | rw [if_pos c38_12] | rw [if_neg c38_12] | rw [if_neg (nbt c38_12)]); first | done | rfl) | (rw [tG]; (first | rw [if_pos c17_4] | rw [if_neg c17_4] | rw [if_neg (nbt c17_4)]); (first | rw [if_pos c25_7] | rw [if_neg c25_7] | rw [if_neg (nbt c25_7)]); (first | rw [if_pos c38_12] | rw [if_neg c38_12] | rw [if_neg (nbt c38_12)]); rw [← oI_up]; try rfl)) (ih2 _ (by omega) (k + 1) (by omega) rfl)
            · skip
              have hT7 := (TI_s hv hT5 (show k < v.2.1 by omega) (oN_n c25_7 (S_po_100 hT6))).1
              refine j_aload_n (pc := 41) hX dX9_tighten_41 0 rfl ?_
              refine j_get (ci := 9) (pc := 42) hX inG9 rfl 11 (by decide) mw635 0 rfl rfl dX9_tighten_42 ?_
              refine j_aload_n (pc := 45) hX dX9_tighten_45 0 rfl ?_
              refine j_get (ci := 9) (pc := 46) hX inG9 rfl 12 (by decide) mw636 0 rfl rfl dX9_tighten_46 ?_
              refine j_iload_n (pc := 49) hX dX9_tighten_49 1 rfl ?_
              refine j_iast (pc := 50) hX 3 rfl ((tG v op ra p k).2) rfl (by omega) (by omega) dX9_tighten_50 ?_
              refine j_ws (ws2 := [(m, .inr (9, [.ref a0, .ref a1, .int (nI un), .ref a3, .ref a4, .ref a5, .int (nI sg), .ref a7, .ref a8, .int (nI mn), .ref a10, .ref a11, .int (nI ((tG v op ra p k).2)), .int dr, .int (nI rd), .int op])), (a0, .inl (gI g, 60, .inl (nowF v))), (a10, .inl (gI g, 18, .inl ra)), (a11, .inl (gI g, 14, .inl (upd (oI ((tG v op ra p k).1)) ((tG v op ra p k).2) (nI k))))]) rfl ?_
              refine j_aload_n (pc := 51) hX dX9_tighten_51 0 rfl ?_
              refine j_dup (pc := 52) hX dX9_tighten_52 rfl ?_
              refine j_get (ci := 9) (pc := 53) hX inG9 rfl 12 (by decide) mw636 0 rfl rfl dX9_tighten_53 ?_
              refine j_iconst (v := 1) (pc := 56) hX dX9_tighten_56 (by decide) ?_
              refine j_iadd (pc := 57) hX dX9_tighten_57 ?_
              refine j_top (b := nI (((tG v op ra p k).2) + 1)) (nI_add ((tG v op ra p k).2) 1) ?_
              refine j_put (ci := 9) (ty := .int) (pc := 58) hX inG9 tyX9 tyX9_ok nmG9 rfl 12 (by decide) mw636 rfl (by decide +kernel) 0 rfl (Nat.le_of_ble_eq_true rfl) (rfl) rfl dX9_tighten_58 ?_
              refine j_ws (ws2 := [(m, .inr (9, [.ref a0, .ref a1, .int (nI un), .ref a3, .ref a4, .ref a5, .int (nI sg), .ref a7, .ref a8, .int (nI mn), .ref a10, .ref a11, .int (nI (((tG v op ra p k).2) + 1)), .int dr, .int (nI rd), .int op])), (a0, .inl (gI g, 60, .inl (nowF v))), (a10, .inl (gI g, 18, .inl ra)), (a11, .inl (gI g, 14, .inl (upd (oI ((tG v op ra p k).1)) ((tG v op ra p k).2) (nI k))))]) rfl ?_
              refine j_iinc (v := nI (k + 1)) (lv2 := [(0, .ref m), (1, .int (nI (k + 1)))]) (pc := 61) hX dX9_tighten_61 1 rfl (nI_add k 1) [1, 0] (by decide) rfl ?_
              refine j_goto (tgt := 2) (pc := 64) hX dX9_tighten_64 (by decide) ?_
              exact j_eq (lv2 := [(0, .ref m), (1, .int (nI (k + 1)))]) (ws2 := [(m, .inr (9, [.ref a0, .ref a1, .int (nI un), .ref a3, .ref a4, .ref a5, .int (nI sg), .ref a7, .ref a8, .int (nI mn), .ref a10, .ref a11, .int (nI ((tG v op ra p (k + 1)).2)), .int dr, .int (nI rd), .int op])), (a0, .inl (gI g, 60, .inl (nowF v))), (a10, .inl (gI g, 18, .inl ra)), (a11, .inl (gI g, 14, .inl (oI ((tG v op ra p (k + 1)).1))))]) (by first | rfl | (rw [tG]; (first | rw [if_pos c17_4] | rw [if_neg c17_4] | rw [if_neg (nbt c17_4)]); (first | rw [if_pos c25_7] | rw [if_neg c25_7] | rw [if_neg (nbt c25_7)]); (first | rw [if_pos c38_12] | rw [if_neg c38_12] | rw [if_neg (nbt c38_12)]); first | done | rfl) | (rw [tG]; (first | rw [if_pos c17_4] | rw [if_neg c17_4] | rw [if_neg (nbt c17_4)]); (first | rw [if_pos c25_7] | rw [if_neg c25_7] | rw [if_neg (nbt c25_7)]); (first | rw [if_pos c38_12] | rw [if_neg c38_12] | rw [if_neg (nbt c38_12)]); rw [← oI_up]; try rfl)) (by first | rfl | (rw [tG]; (first | rw [if_pos c17_4] | rw [if_neg c17_4] | rw [if_neg (nbt c17_4)]); (first | rw [if_pos c25_7] | rw [if_neg c25_7] | rw [if_neg (nbt c25_7)]); (first | rw [if_pos c38_12] | rw [if_neg c38_12] | rw [if_neg (nbt c38_12)]); first | done | rfl) | (rw [tG]; (first | rw [if_pos c17_4] | rw [if_neg c17_4] | rw [if_neg (nbt c17_4)]); (first | rw [if_pos c25_7] | rw [if_neg c25_7] | rw [if_neg (nbt c25_7)]); (first | rw [if_pos c38_12] | rw [if_neg c38_12] | rw [if_neg (nbt c38_12)]); rw [← oI_up]; try rfl)) (ih2 _ (by omega) (k + 1) (by omega) rfl)
  exact j_eq (lv2 := [(0, .ref m), (1, .int (nI 0))]) (ws2 := [(m, .inr (9, [.ref a0, .ref a1, .int (nI un), .ref a3, .ref a4, .ref a5, .int (nI sg), .ref a7, .ref a8, .int (nI mn), .ref a10, .ref a11, .int (nI ((tG v op ra p 0).2)), .int dr, .int (nI rd), .int op])), (a0, .inl (gI g, 60, .inl (nowF v))), (a10, .inl (gI g, 18, .inl ra)), (a11, .inl (gI g, 14, .inl (oI ((tG v op ra p 0).1))))]) (rfl) (rfl) (L2 _ 0 (by omega) rfl)

set_option maxHeartbeats 4000000 in
set_option maxRecDepth 100000 in
theorem c_X9_layShares (g : jG) (m : Nat) (a0 : Nat) (a1 : Nat) (a3 : Nat) (a4 : Nat) (a5 : Nat) (a7 : Nat) (a8 : Nat) (a10 : Nat) (a11 : Nat) (un : Nat) (sg : Nat) (mn : Nat) (ti : Nat) (dr : Int32) (rd : Nat) (op : Int32) (v : StT) (ra : Nat → Int32) (o : Nat → Nat) (hv : v.2.1 ≤ 14) (ho : ∀ j, o j < 100) (hf : lfM v (RM v o) = 0) : jMV g yX9_layShares cX9_layShares 3 3 65 0 0 [.ref m] [(m, .inr (9, [.ref a0, .ref a1, .int (nI un), .ref a3, .ref a4, .ref a5, .int (nI sg), .ref a7, .ref a8, .int (nI mn), .ref a10, .ref a11, .int (nI ti), .int dr, .int (nI rd), .int op])), (a0, .inl (gI g, 60, .inl (nowF v))), (a10, .inl (gI g, 18, .inl ra)), (a11, .inl (gI g, 14, .inl (oI o)))] (fun wz wzn => wz = [(m, .inr (9, [.ref a0, .ref a1, .int (nI un), .ref a3, .ref a4, .ref a5, .int (nI sg), .ref a7, .ref a8, .int (nI mn), .ref a10, .ref a11, .int (nI ((RM v o).2.2.1)), .int (DM v o), .int (nI ((RM v o).2.2.2.1)), .int ((RM v o).2.2.2.2)])), (a0, .inl (gI g, 60, .inl (nowF v))), (a10, .inl (gI g, 18, .inl ((RM v o).1))), (a11, .inl (gI g, 14, .inl (oI ((RM v o).2.1))))] ∧ wzn = []) := by
  refine jMV.intro (by decide +kernel) (Nat.le_of_ble_eq_true rfl) (fun x hX hQ hN => ?_)
  refine j_lv (lv2 := [(0, .ref m)]) rfl ?_
  refine j_iconst (v := 0) (pc := 0) hX dX9_layShares_0 (by decide) ?_
  refine j_istore_n (lv2 := [(0, .ref m), (1, .int 0)]) (pc := 1) hX dX9_layShares_1 [1, 0] (by decide) rfl ?_
  have L2 : ∀ (d : Nat) (t : Nat), t ≤ 18 → 18 - t = d → J g x 3 0 0 2 [(0, .ref m), (1, .int (nI t))] [] [(m, .inr (9, [.ref a0, .ref a1, .int (nI un), .ref a3, .ref a4, .ref a5, .int (nI sg), .ref a7, .ref a8, .int (nI mn), .ref a10, .ref a11, .int (nI ti), .int dr, .int (nI rd), .int op])), (a0, .inl (gI g, 60, .inl (nowF v))), (a10, .inl (gI g, 18, .inl (S_fill 0 ra t))), (a11, .inl (gI g, 14, .inl (oI o)))] := by
    intro d
    induction d using Nat.strongRecOn with
    | _ d ih2 =>
      intro t ht hd2
      refine j_iload_n (pc := 2) hX dX9_layShares_2 1 rfl ?_
      refine j_bipush (v := 18) (pc := 3) hX dX9_layShares_3 (by decide) ?_
      refine j_icmp_ge (tgt := 21) (pc := 5) hX dX9_layShares_5 (by decide) (fun c5_1 => ?_) (fun c5_1 => ?_)
      · skip
        have c5_1n : 18 ≤ t := (nI_leI (a := 18) (b := t) (by omega) (by omega)).mp c5_1
        have c5_1m : ¬ t < 18 := by omega
        have ht18 : t = 18 := by omega
        subst ht18
        refine j_cong 2 (fun _ => 0) rfl (fun j hj => if_pos (by omega)) ?_
        refine j_ws (ws2 := [(m, .inr (9, [.ref a0, .ref a1, .int (nI un), .ref a3, .ref a4, .ref a5, .int (nI sg), .ref a7, .ref a8, .int (nI mn), .ref a10, .ref a11, .int (nI ti), .int dr, .int (nI rd), .int op])), (a0, .inl (gI g, 60, .inl (nowF v))), (a10, .inl (gI g, 18, .inl (fun _ => 0))), (a11, .inl (gI g, 14, .inl (oI o)))]) rfl ?_
        refine j_aload_n (pc := 21) hX dX9_layShares_21 0 rfl ?_
        refine j_iconst (v := 0) (pc := 22) hX dX9_layShares_22 (by decide) ?_
        refine j_put (ci := 9) (ty := .int) (pc := 23) hX inG9 tyX9 tyX9_ok nmG9 rfl 12 (by decide) mw636 rfl (by decide +kernel) 0 rfl (Nat.le_of_ble_eq_true rfl) (rfl) rfl dX9_layShares_23 ?_
        refine j_ws (ws2 := [(m, .inr (9, [.ref a0, .ref a1, .int (nI un), .ref a3, .ref a4, .ref a5, .int (nI sg), .ref a7, .ref a8, .int (nI mn), .ref a10, .ref a11, .int 0, .int dr, .int (nI rd), .int op])), (a0, .inl (gI g, 60, .inl (nowF v))), (a10, .inl (gI g, 18, .inl (fun _ => 0))), (a11, .inl (gI g, 14, .inl (oI o)))]) rfl ?_
        refine j_aload_n (pc := 26) hX dX9_layShares_26 0 rfl ?_
        refine j_iconst (v := 0) (pc := 27) hX dX9_layShares_27 (by decide) ?_
        refine j_put (ci := 9) (ty := .int) (pc := 28) hX inG9 tyX9 tyX9_ok nmG9 rfl 14 (by decide) mw638 rfl (by decide +kernel) 0 rfl (Nat.le_of_ble_eq_true rfl) (rfl) rfl dX9_layShares_28 ?_
        refine j_ws (ws2 := [(m, .inr (9, [.ref a0, .ref a1, .int (nI un), .ref a3, .ref a4, .ref a5, .int (nI sg), .ref a7, .ref a8, .int (nI mn), .ref a10, .ref a11, .int 0, .int dr, .int 0, .int op])), (a0, .inl (gI g, 60, .inl (nowF v))), (a10, .inl (gI g, 18, .inl (fun _ => 0))), (a11, .inl (gI g, 14, .inl (oI o)))]) rfl ?_
        refine j_aload_n (pc := 31) hX dX9_layShares_31 0 rfl ?_
        refine j_aload_n (pc := 32) hX dX9_layShares_32 0 rfl ?_
        refine j_get (ci := 9) (pc := 33) hX inG9 rfl 0 (by decide) mw624 0 rfl rfl dX9_layShares_33 ?_
        refine j_iconst (v := 1) (pc := 36) hX dX9_layShares_36 (by decide) ?_
        refine j_iald (pc := 37) hX 1 rfl 1 rfl (by omega) (by omega) dX9_layShares_37 ?_
        refine j_top (b := v.1) (rfl) ?_
        refine j_aload_n (pc := 38) hX dX9_layShares_38 0 rfl ?_
        refine j_aload_n (pc := 39) hX dX9_layShares_39 0 rfl ?_
        refine j_iconst (v := 1) (pc := 40) hX dX9_layShares_40 (by decide) ?_
        refine j_callVI (n := 1) (As := [.int 1]) (rest := [.ref m, .int v.1, .ref m]) (pc := 41) hX (c_X9_setsMarked g m a0 a1 a3 a4 a5 a7 a8 a10 a11 un sg mn 0 dr 0 op v 1 (by first | assumption | omega)) (CV.of mw732 mw733 mw28 mw52 mw734 ⟨rfl, by decide +kernel, by decide +kernel, by decide +kernel⟩ (T := TX9) (N := 16) rfl) (Nat.le_of_ble_eq_true rfl) (Nat.le_of_ble_eq_true rfl) (Nat.le_of_ble_eq_true rfl) (Nat.le_of_ble_eq_true rfl) 0 rfl [0, 1] (by decide +kernel) rfl rfl rfl (Nat.le_of_ble_eq_true rfl) dX9_layShares_41 (fun r2 wz hq3 => ?_)
        obtain ⟨rfl, rfl⟩ := hq3
        refine j_ws (ws2 := [(m, .inr (9, [.ref a0, .ref a1, .int (nI un), .ref a3, .ref a4, .ref a5, .int (nI sg), .ref a7, .ref a8, .int (nI mn), .ref a10, .ref a11, .int (nI 0), .int dr, .int (nI 0), .int op])), (a0, .inl (gI g, 60, .inl (nowF v))), (a10, .inl (gI g, 18, .inl (fun _ => 0))), (a11, .inl (gI g, 14, .inl (oI o)))]) rfl ?_
        refine j_callVI (n := 1) (As := [.int (S_mk v.2.2.2.2 1 v.2.1)]) (rest := [.int v.1, .ref m]) (pc := 44) hX (c_X9_thingsOf g m a0 a1 a3 a4 a5 a7 a8 a10 a11 un sg mn 0 dr 0 op v (S_mk v.2.2.2.2 1 v.2.1) (by first | assumption | omega)) (CV.of mw735 mw736 mw29 mw52 mw737 ⟨rfl, by decide +kernel, by decide +kernel, by decide +kernel⟩ (T := TX9) (N := 16) rfl) (Nat.le_of_ble_eq_true rfl) (Nat.le_of_ble_eq_true rfl) (Nat.le_of_ble_eq_true rfl) (Nat.le_of_ble_eq_true rfl) 0 rfl [0, 1] (by decide +kernel) rfl rfl rfl (Nat.le_of_ble_eq_true rfl) dX9_layShares_44 (fun r4 wz hq5 => ?_)
        obtain ⟨rfl, rfl⟩ := hq5
        refine j_ws (ws2 := [(m, .inr (9, [.ref a0, .ref a1, .int (nI un), .ref a3, .ref a4, .ref a5, .int (nI sg), .ref a7, .ref a8, .int (nI mn), .ref a10, .ref a11, .int (nI 0), .int dr, .int (nI 0), .int op])), (a0, .inl (gI g, 60, .inl (nowF v))), (a10, .inl (gI g, 18, .inl (fun _ => 0))), (a11, .inl (gI g, 14, .inl (oI o)))]) rfl ?_
        refine j_iconst (v := (-1)) (pc := 47) hX dX9_layShares_47 (by decide) ?_
        refine j_ixor (pc := 48) hX dX9_layShares_48 ?_
        refine j_iand (pc := 49) hX dX9_layShares_49 ?_
        refine j_put (ci := 9) (ty := .int) (pc := 50) hX inG9 tyX9 tyX9_ok nmG9 rfl 15 (by decide) mw639 rfl (by decide +kernel) 0 rfl (Nat.le_of_ble_eq_true rfl) (rfl) rfl dX9_layShares_50 ?_
        refine j_ws (ws2 := [(m, .inr (9, [.ref a0, .ref a1, .int (nI un), .ref a3, .ref a4, .ref a5, .int (nI sg), .ref a7, .ref a8, .int (nI mn), .ref a10, .ref a11, .int (nI 0), .int dr, .int (nI 0), .int (v.1 &&& ((S_or v.2.2.1 (S_mk v.2.2.2.2 1 v.2.1) v.2.1) ^^^ (-1)))])), (a0, .inl (gI g, 60, .inl (nowF v))), (a10, .inl (gI g, 18, .inl (fun _ => 0))), (a11, .inl (gI g, 14, .inl (oI o)))]) rfl ?_
        have L53 : ∀ (d : Nat) (i : Nat) (y : MT), i ≤ 500 → maM v (500 - i) y = RM v o → TY v y → 500 - i = d → J g x 3 0 0 53 [(0, .ref m)] [] [(m, .inr (9, [.ref a0, .ref a1, .int (nI un), .ref a3, .ref a4, .ref a5, .int (nI sg), .ref a7, .ref a8, .int (nI mn), .ref a10, .ref a11, .int (nI y.2.2.1), .int dr, .int (nI y.2.2.2.1), .int y.2.2.2.2])), (a0, .inl (gI g, 60, .inl (nowF v))), (a10, .inl (gI g, 18, .inl y.1)), (a11, .inl (gI g, 14, .inl (oI y.2.1)))] := by
          intro d
          induction d using Nat.strongRecOn with
          | _ d ih53 =>
            intro i y hi hR hT hd53
            refine j_aload_n (pc := 53) hX dX9_layShares_53 0 rfl ?_
            refine j_get (ci := 9) (pc := 54) hX inG9 rfl 15 (by decide) mw639 0 rfl rfl dX9_layShares_54 ?_
            refine j_aload_n (pc := 57) hX dX9_layShares_57 0 rfl ?_
            refine j_aload_n (pc := 58) hX dX9_layShares_58 0 rfl ?_
            refine j_callVI (n := 0) (As := []) (rest := [.ref m, .int y.2.2.2.2]) (pc := 59) hX (c_X9_tightSets g m a0 a1 a3 a4 a5 a7 a8 a10 a11 un sg mn y.2.2.1 dr y.2.2.2.1 y.2.2.2.2 y.2.1 (hT.1)) (CV.of mw750 mw751 mw33 mw52 mw752 ⟨rfl, by decide +kernel, by decide +kernel, by decide +kernel⟩ (T := TX9) (N := 16) rfl) (Nat.le_of_ble_eq_true rfl) (Nat.le_of_ble_eq_true rfl) (Nat.le_of_ble_eq_true rfl) (Nat.le_of_ble_eq_true rfl) 0 rfl [0, 3] (by decide +kernel) rfl rfl rfl (Nat.le_of_ble_eq_true rfl) dX9_layShares_59 (fun r6 wz hq7 => ?_)
            obtain ⟨rfl, rfl⟩ := hq7
            refine j_ws (ws2 := [(m, .inr (9, [.ref a0, .ref a1, .int (nI un), .ref a3, .ref a4, .ref a5, .int (nI sg), .ref a7, .ref a8, .int (nI mn), .ref a10, .ref a11, .int (nI y.2.2.1), .int dr, .int (nI y.2.2.2.1), .int y.2.2.2.2])), (a0, .inl (gI g, 60, .inl (nowF v))), (a10, .inl (gI g, 18, .inl y.1)), (a11, .inl (gI g, 14, .inl (oI y.2.1)))]) rfl ?_
            refine j_callVI (n := 1) (As := [.int (S_ts y.2.1 y.2.2.1)]) (rest := [.int y.2.2.2.2]) (pc := 62) hX (c_X9_thingsOf g m a0 a1 a3 a4 a5 a7 a8 a10 a11 un sg mn y.2.2.1 dr y.2.2.2.1 y.2.2.2.2 v (S_ts y.2.1 y.2.2.1) (by first | assumption | omega)) (CV.of mw735 mw736 mw29 mw52 mw737 ⟨rfl, by decide +kernel, by decide +kernel, by decide +kernel⟩ (T := TX9) (N := 16) rfl) (Nat.le_of_ble_eq_true rfl) (Nat.le_of_ble_eq_true rfl) (Nat.le_of_ble_eq_true rfl) (Nat.le_of_ble_eq_true rfl) 0 rfl [0, 1] (by decide +kernel) rfl rfl rfl (Nat.le_of_ble_eq_true rfl) dX9_layShares_62 (fun r8 wz hq9 => ?_)
            obtain ⟨rfl, rfl⟩ := hq9
            refine j_ws (ws2 := [(m, .inr (9, [.ref a0, .ref a1, .int (nI un), .ref a3, .ref a4, .ref a5, .int (nI sg), .ref a7, .ref a8, .int (nI mn), .ref a10, .ref a11, .int (nI y.2.2.1), .int dr, .int (nI y.2.2.2.1), .int y.2.2.2.2])), (a0, .inl (gI g, 60, .inl (nowF v))), (a10, .inl (gI g, 18, .inl y.1)), (a11, .inl (gI g, 14, .inl (oI y.2.1)))]) rfl ?_
            refine j_iconst (v := (-1)) (pc := 65) hX dX9_layShares_65 (by decide) ?_
            refine j_ixor (pc := 66) hX dX9_layShares_66 ?_
            refine j_iand (pc := 67) hX dX9_layShares_67 ?_
            refine j_top (b := lfM v y) (rfl) ?_
            refine j_if_eq (tgt := 134) (pc := 68) hX dX9_layShares_68 (by decide) (fun c68_10 => ?_) (fun c68_10 => ?_)
            · skip
              have hy : y = RM v o := (maM_end c68_10 (500 - i)).symm.trans hR
              subst hy
              have h14 : (RM v o).2.2.1 ≤ 14 := hT.1
              refine j_aload_n (pc := 134) hX dX9_layShares_134 0 rfl ?_
              refine j_iconst (v := 0) (pc := 135) hX dX9_layShares_135 (by decide) ?_
              refine j_put (ci := 9) (ty := .int) (pc := 136) hX inG9 tyX9 tyX9_ok nmG9 rfl 13 (by decide) mw637 rfl (by decide +kernel) 0 rfl (Nat.le_of_ble_eq_true rfl) (rfl) rfl dX9_layShares_136 ?_
              refine j_ws (ws2 := [(m, .inr (9, [.ref a0, .ref a1, .int (nI un), .ref a3, .ref a4, .ref a5, .int (nI sg), .ref a7, .ref a8, .int (nI mn), .ref a10, .ref a11, .int (nI (RM v o).2.2.1), .int 0, .int (nI (RM v o).2.2.2.1), .int ((RM v o).2.2.2.2)])), (a0, .inl (gI g, 60, .inl (nowF v))), (a10, .inl (gI g, 18, .inl ((RM v o).1))), (a11, .inl (gI g, 14, .inl (oI (RM v o).2.1)))]) rfl ?_
              refine j_aload_n (pc := 139) hX dX9_layShares_139 0 rfl ?_
              refine j_get (ci := 9) (pc := 140) hX inG9 rfl 12 (by decide) mw636 0 rfl rfl dX9_layShares_140 ?_
              refine j_iconst (v := 1) (pc := 143) hX dX9_layShares_143 (by decide) ?_
              refine j_isub (pc := 144) hX dX9_layShares_144 ?_
              refine j_istore_n (lv2 := [(0, .ref m), (1, .int ((nI (RM v o).2.2.1) - 1))]) (pc := 145) hX dX9_layShares_145 [1, 0] (by decide) rfl ?_
              have L146 : ∀ (d : Nat) (a : Nat) (d0 : Int32), a ≤ 14 → drM v (RM v o) a d0 = DM v o → a = d → J g x 3 0 0 146 [(0, .ref m), (1, .int (nI a - 1))] [] [(m, .inr (9, [.ref a0, .ref a1, .int (nI un), .ref a3, .ref a4, .ref a5, .int (nI sg), .ref a7, .ref a8, .int (nI mn), .ref a10, .ref a11, .int (nI ((RM v o).2.2.1)), .int d0, .int (nI ((RM v o).2.2.2.1)), .int ((RM v o).2.2.2.2)])), (a0, .inl (gI g, 60, .inl (nowF v))), (a10, .inl (gI g, 18, .inl ((RM v o).1))), (a11, .inl (gI g, 14, .inl (oI ((RM v o).2.1))))] := by
                intro d
                induction d using Nat.strongRecOn with
                | _ d ih146 =>
                  intro a d0 ha hD hd146
                  refine j_iload_n (pc := 146) hX dX9_layShares_146 1 rfl ?_
                  refine j_if_lt (tgt := 215) (pc := 147) hX dX9_layShares_147 (by decide) (fun c147_11 => ?_) (fun c147_11 => ?_)
                  · skip
                    exact j_vret (pc := 215) hX hQ dX9_layShares_215 [(m, .inr (9, [.ref a0, .ref a1, .int (nI un), .ref a3, .ref a4, .ref a5, .int (nI sg), .ref a7, .ref a8, .int (nI mn), .ref a10, .ref a11, .int (nI ((RM v o).2.2.1)), .int d0, .int (nI ((RM v o).2.2.2.1)), .int ((RM v o).2.2.2.2)])), (a0, .inl (gI g, 60, .inl (nowF v))), (a10, .inl (gI g, 18, .inl ((RM v o).1))), (a11, .inl (gI g, 14, .inl (oI ((RM v o).2.1))))] [] rfl rfl ⟨(by have ha0 : a = 0 := (dn_lt (by omega)).mp c147_11; subst ha0; rw [← hD]; rfl), (rfl)⟩
                  · skip
                    have ha0 : 0 < a := Nat.pos_of_ne_zero (fun h9 => c147_11 ((dn_lt (by omega)).mpr h9))
                    refine j_aload_n (pc := 150) hX dX9_layShares_150 0 rfl ?_
                    refine j_callVI (n := 0) (As := []) (rest := []) (pc := 151) hX (c_X9_tightSets g m a0 a1 a3 a4 a5 a7 a8 a10 a11 un sg mn ((RM v o).2.2.1) d0 ((RM v o).2.2.2.1) ((RM v o).2.2.2.2) ((RM v o).2.1) (h14)) (CV.of mw750 mw751 mw33 mw52 mw752 ⟨rfl, by decide +kernel, by decide +kernel, by decide +kernel⟩ (T := TX9) (N := 16) rfl) (Nat.le_of_ble_eq_true rfl) (Nat.le_of_ble_eq_true rfl) (Nat.le_of_ble_eq_true rfl) (Nat.le_of_ble_eq_true rfl) 0 rfl [0, 3] (by decide +kernel) rfl rfl rfl (Nat.le_of_ble_eq_true rfl) dX9_layShares_151 (fun r12 wz hq13 => ?_)
                    obtain ⟨rfl, rfl⟩ := hq13
                    refine j_ws (ws2 := [(m, .inr (9, [.ref a0, .ref a1, .int (nI un), .ref a3, .ref a4, .ref a5, .int (nI sg), .ref a7, .ref a8, .int (nI mn), .ref a10, .ref a11, .int (nI ((RM v o).2.2.1)), .int d0, .int (nI ((RM v o).2.2.2.1)), .int ((RM v o).2.2.2.2)])), (a0, .inl (gI g, 60, .inl (nowF v))), (a10, .inl (gI g, 18, .inl ((RM v o).1))), (a11, .inl (gI g, 14, .inl (oI ((RM v o).2.1))))]) rfl ?_
                    refine j_aload_n (pc := 154) hX dX9_layShares_154 0 rfl ?_
                    refine j_get (ci := 9) (pc := 155) hX inG9 rfl 13 (by decide) mw637 0 rfl rfl dX9_layShares_155 ?_
                    refine j_iconst (v := (-1)) (pc := 158) hX dX9_layShares_158 (by decide) ?_
                    refine j_ixor (pc := 159) hX dX9_layShares_159 ?_
                    refine j_iand (pc := 160) hX dX9_layShares_160 ?_
                    refine j_iconst (v := 1) (pc := 161) hX dX9_layShares_161 (by decide) ?_
                    refine j_aload_n (pc := 162) hX dX9_layShares_162 0 rfl ?_
                    refine j_get (ci := 9) (pc := 163) hX inG9 rfl 11 (by decide) mw635 0 rfl rfl dX9_layShares_163 ?_
                    refine j_iload_n (pc := 166) hX dX9_layShares_166 1 rfl ?_
                    refine j_top (b := nI (a - 1)) (pk_sub (a := a) (b := 1) (by omega)) ?_
                    refine j_iald (pc := 167) hX 3 rfl (a - 1) rfl (by omega) (by omega) dX9_layShares_167 ?_
                    refine j_top (b := nI ((RM v o).2.1 (a - 1))) (rfl) ?_
                    refine j_ishl (pc := 168) hX dX9_layShares_168 ?_
                    refine j_top (b := bI ((RM v o).2.1 (a - 1))) rfl ?_
                    refine j_iconst (v := (-1)) (pc := 169) hX dX9_layShares_169 (by decide) ?_
                    refine j_ixor (pc := 170) hX dX9_layShares_170 ?_
                    refine j_iand (pc := 171) hX dX9_layShares_171 ?_
                    refine j_top (b := wdM v (RM v o) d0 (a - 1)) (rfl) ?_
                    refine j_istore_n (lv2 := [(0, .ref m), (1, .int (nI a - 1)), (2, .int (wdM v (RM v o) d0 (a - 1)))]) (pc := 172) hX dX9_layShares_172 [1, 2, 0] (by decide) rfl ?_
                    refine j_aload_n (pc := 173) hX dX9_layShares_173 0 rfl ?_
                    refine j_dup (pc := 174) hX dX9_layShares_174 rfl ?_
                    refine j_get (ci := 9) (pc := 175) hX inG9 rfl 13 (by decide) mw637 0 rfl rfl dX9_layShares_175 ?_
                    refine j_aload_n (pc := 178) hX dX9_layShares_178 0 rfl ?_
                    refine j_get (ci := 9) (pc := 179) hX inG9 rfl 15 (by decide) mw639 0 rfl rfl dX9_layShares_179 ?_
                    refine j_aload_n (pc := 182) hX dX9_layShares_182 0 rfl ?_
                    refine j_iload_n (pc := 183) hX dX9_layShares_183 2 rfl ?_
                    refine j_callVI (n := 1) (As := [.int (wdM v (RM v o) d0 (a - 1))]) (rest := [.int ((RM v o).2.2.2.2), .int d0, .ref m]) (pc := 184) hX (c_X9_thingsOf g m a0 a1 a3 a4 a5 a7 a8 a10 a11 un sg mn ((RM v o).2.2.1) d0 ((RM v o).2.2.2.1) ((RM v o).2.2.2.2) v (wdM v (RM v o) d0 (a - 1)) (by first | assumption | omega)) (CV.of mw735 mw736 mw29 mw52 mw737 ⟨rfl, by decide +kernel, by decide +kernel, by decide +kernel⟩ (T := TX9) (N := 16) rfl) (Nat.le_of_ble_eq_true rfl) (Nat.le_of_ble_eq_true rfl) (Nat.le_of_ble_eq_true rfl) (Nat.le_of_ble_eq_true rfl) 0 rfl [0, 1] (by decide +kernel) rfl rfl rfl (Nat.le_of_ble_eq_true rfl) dX9_layShares_184 (fun r14 wz hq15 => ?_)
                    obtain ⟨rfl, rfl⟩ := hq15
                    refine j_ws (ws2 := [(m, .inr (9, [.ref a0, .ref a1, .int (nI un), .ref a3, .ref a4, .ref a5, .int (nI sg), .ref a7, .ref a8, .int (nI mn), .ref a10, .ref a11, .int (nI ((RM v o).2.2.1)), .int d0, .int (nI ((RM v o).2.2.2.1)), .int ((RM v o).2.2.2.2)])), (a0, .inl (gI g, 60, .inl (nowF v))), (a10, .inl (gI g, 18, .inl ((RM v o).1))), (a11, .inl (gI g, 14, .inl (oI ((RM v o).2.1))))]) rfl ?_
                    refine j_iconst (v := (-1)) (pc := 187) hX dX9_layShares_187 (by decide) ?_
                    refine j_ixor (pc := 188) hX dX9_layShares_188 ?_
                    refine j_iand (pc := 189) hX dX9_layShares_189 ?_
                    refine j_if_ne (tgt := 204) (pc := 190) hX dX9_layShares_190 (by decide) (fun c190_16 => ?_) (fun c190_16 => ?_)
                    · skip
                      refine j_iconst (v := 0) (pc := 204) hX dX9_layShares_204 (by decide) ?_
                      refine j_ior (pc := 205) hX dX9_layShares_205 ?_
                      refine j_put (ci := 9) (ty := .int) (pc := 206) hX inG9 tyX9 tyX9_ok nmG9 rfl 13 (by decide) mw637 rfl (by decide +kernel) 0 rfl (Nat.le_of_ble_eq_true rfl) (rfl) rfl dX9_layShares_206 ?_
                      refine j_ws (ws2 := [(m, .inr (9, [.ref a0, .ref a1, .int (nI un), .ref a3, .ref a4, .ref a5, .int (nI sg), .ref a7, .ref a8, .int (nI mn), .ref a10, .ref a11, .int (nI ((RM v o).2.2.1)), .int (d0 ||| 0), .int (nI ((RM v o).2.2.2.1)), .int ((RM v o).2.2.2.2)])), (a0, .inl (gI g, 60, .inl (nowF v))), (a10, .inl (gI g, 18, .inl ((RM v o).1))), (a11, .inl (gI g, 14, .inl (oI ((RM v o).2.1))))]) rfl ?_
                      refine j_iinc (v := (nI a - 1) + (-1)) (lv2 := [(0, .ref m), (1, .int ((nI a - 1) + (-1))), (2, .int (wdM v (RM v o) d0 (a - 1)))]) (pc := 209) hX dX9_layShares_209 1 rfl (rfl) [1, 0, 2] (by decide) rfl ?_
                      refine j_goto (tgt := 146) (pc := 212) hX dX9_layShares_212 (by decide) ?_
                      refine j_lvs (lv2 := [(0, .ref m), (1, .int ((nI a - 1) + (-1)))]) [0, 1] rfl ?_
                      exact j_eq (lv2 := [(0, .ref m), (1, .int (nI (a - 1) - 1))]) (ws2 := [(m, .inr (9, [.ref a0, .ref a1, .int (nI un), .ref a3, .ref a4, .ref a5, .int (nI sg), .ref a7, .ref a8, .int (nI mn), .ref a10, .ref a11, .int (nI ((RM v o).2.2.1)), .int d0, .int (nI ((RM v o).2.2.2.1)), .int ((RM v o).2.2.2.2)])), (a0, .inl (gI g, 60, .inl (nowF v))), (a10, .inl (gI g, 18, .inl ((RM v o).1))), (a11, .inl (gI g, 14, .inl (oI ((RM v o).2.1))))]) (by first | (rw [dn1 (by omega)]; done) | (rw [or0]; done) | rfl) (by first | (rw [dn1 (by omega)]; done) | (rw [or0]; done) | rfl) (ih146 _ (by omega) (a - 1) d0 (by omega) (by rw [drM_s (by omega), if_neg c190_16] at hD; exact hD) rfl)
                    · skip
                      refine j_iconst (v := 1) (pc := 193) hX dX9_layShares_193 (by decide) ?_
                      refine j_aload_n (pc := 194) hX dX9_layShares_194 0 rfl ?_
                      refine j_get (ci := 9) (pc := 195) hX inG9 rfl 11 (by decide) mw635 0 rfl rfl dX9_layShares_195 ?_
                      refine j_iload_n (pc := 198) hX dX9_layShares_198 1 rfl ?_
                      refine j_top (b := nI (a - 1)) (pk_sub (a := a) (b := 1) (by omega)) ?_
                      refine j_iald (pc := 199) hX 3 rfl (a - 1) rfl (by omega) (by omega) dX9_layShares_199 ?_
                      refine j_top (b := nI ((RM v o).2.1 (a - 1))) (rfl) ?_
                      refine j_ishl (pc := 200) hX dX9_layShares_200 ?_
                      refine j_top (b := bI ((RM v o).2.1 (a - 1))) rfl ?_
                      refine j_goto (tgt := 205) (pc := 201) hX dX9_layShares_201 (by decide) ?_
                      refine j_ior (pc := 205) hX dX9_layShares_205 ?_
                      refine j_put (ci := 9) (ty := .int) (pc := 206) hX inG9 tyX9 tyX9_ok nmG9 rfl 13 (by decide) mw637 rfl (by decide +kernel) 0 rfl (Nat.le_of_ble_eq_true rfl) (rfl) rfl dX9_layShares_206 ?_
                      refine j_ws (ws2 := [(m, .inr (9, [.ref a0, .ref a1, .int (nI un), .ref a3, .ref a4, .ref a5, .int (nI sg), .ref a7, .ref a8, .int (nI mn), .ref a10, .ref a11, .int (nI ((RM v o).2.2.1)), .int (d0 ||| (bI ((RM v o).2.1 (a - 1)))), .int (nI ((RM v o).2.2.2.1)), .int ((RM v o).2.2.2.2)])), (a0, .inl (gI g, 60, .inl (nowF v))), (a10, .inl (gI g, 18, .inl ((RM v o).1))), (a11, .inl (gI g, 14, .inl (oI ((RM v o).2.1))))]) rfl ?_
                      refine j_iinc (v := (nI a - 1) + (-1)) (lv2 := [(0, .ref m), (1, .int ((nI a - 1) + (-1))), (2, .int (wdM v (RM v o) d0 (a - 1)))]) (pc := 209) hX dX9_layShares_209 1 rfl (rfl) [1, 0, 2] (by decide) rfl ?_
                      refine j_goto (tgt := 146) (pc := 212) hX dX9_layShares_212 (by decide) ?_
                      refine j_lvs (lv2 := [(0, .ref m), (1, .int ((nI a - 1) + (-1)))]) [0, 1] rfl ?_
                      exact j_eq (lv2 := [(0, .ref m), (1, .int (nI (a - 1) - 1))]) (ws2 := [(m, .inr (9, [.ref a0, .ref a1, .int (nI un), .ref a3, .ref a4, .ref a5, .int (nI sg), .ref a7, .ref a8, .int (nI mn), .ref a10, .ref a11, .int (nI ((RM v o).2.2.1)), .int (d0 ||| (bI ((RM v o).2.1 (a - 1)))), .int (nI ((RM v o).2.2.2.1)), .int ((RM v o).2.2.2.2)])), (a0, .inl (gI g, 60, .inl (nowF v))), (a10, .inl (gI g, 18, .inl ((RM v o).1))), (a11, .inl (gI g, 14, .inl (oI ((RM v o).2.1))))]) (by first | (rw [dn1 (by omega)]; done) | (rw [or0]; done) | rfl) (by first | (rw [dn1 (by omega)]; done) | (rw [or0]; done) | rfl) (ih146 _ (by omega) (a - 1) (d0 ||| (bI ((RM v o).2.1 (a - 1)))) (by omega) (by rw [drM_s (by omega), if_pos c190_16] at hD; exact hD) rfl)
              exact j_eq (lv2 := [(0, .ref m), (1, .int (nI ((RM v o).2.2.1) - 1))]) (ws2 := [(m, .inr (9, [.ref a0, .ref a1, .int (nI un), .ref a3, .ref a4, .ref a5, .int (nI sg), .ref a7, .ref a8, .int (nI mn), .ref a10, .ref a11, .int (nI ((RM v o).2.2.1)), .int 0, .int (nI ((RM v o).2.2.2.1)), .int ((RM v o).2.2.2.2)])), (a0, .inl (gI g, 60, .inl (nowF v))), (a10, .inl (gI g, 18, .inl ((RM v o).1))), (a11, .inl (gI g, 14, .inl (oI ((RM v o).2.1))))]) (rfl) (rfl) (L146 _ ((RM v o).2.2.1) 0 (h14) (rfl) rfl)
            · skip
              have hgo := maM_go hi hR hf c68_10
              refine j_aload_n (pc := 71) hX dX9_layShares_71 0 rfl ?_
              refine j_dup (pc := 72) hX dX9_layShares_72 rfl ?_
              refine j_get (ci := 9) (pc := 73) hX inG9 rfl 14 (by decide) mw638 0 rfl rfl dX9_layShares_73 ?_
              refine j_iconst (v := 1) (pc := 76) hX dX9_layShares_76 (by decide) ?_
              refine j_iadd (pc := 77) hX dX9_layShares_77 ?_
              refine j_top (b := nI (y.2.2.2.1 + 1)) (nI_add y.2.2.2.1 1) ?_
              refine j_put (ci := 9) (ty := .int) (pc := 78) hX inG9 tyX9 tyX9_ok nmG9 rfl 14 (by decide) mw638 rfl (by decide +kernel) 0 rfl (Nat.le_of_ble_eq_true rfl) (rfl) rfl dX9_layShares_78 ?_
              refine j_ws (ws2 := [(m, .inr (9, [.ref a0, .ref a1, .int (nI un), .ref a3, .ref a4, .ref a5, .int (nI sg), .ref a7, .ref a8, .int (nI mn), .ref a10, .ref a11, .int (nI y.2.2.1), .int dr, .int (nI (y.2.2.2.1 + 1)), .int y.2.2.2.2])), (a0, .inl (gI g, 60, .inl (nowF v))), (a10, .inl (gI g, 18, .inl y.1)), (a11, .inl (gI g, 14, .inl (oI y.2.1)))]) rfl ?_
              refine j_iconst (v := 0) (pc := 81) hX dX9_layShares_81 (by decide) ?_
              refine j_istore_n (lv2 := [(0, .ref m), (1, .int 0)]) (pc := 82) hX dX9_layShares_82 [1, 0] (by decide) rfl ?_
              have L83 : ∀ (d : Nat) (t : Nat), t ≤ 18 → 18 - t = d → J g x 3 0 0 83 [(0, .ref m), (1, .int (nI t))] [] [(m, .inr (9, [.ref a0, .ref a1, .int (nI un), .ref a3, .ref a4, .ref a5, .int (nI sg), .ref a7, .ref a8, .int (nI mn), .ref a10, .ref a11, .int (nI ((mrM v (rdM y) t).2.2.1)), .int dr, .int (nI ((mrM v (rdM y) t).2.2.2.1)), .int ((mrM v (rdM y) t).2.2.2.2)])), (a0, .inl (gI g, 60, .inl (nowF v))), (a10, .inl (gI g, 18, .inl ((mrM v (rdM y) t).1))), (a11, .inl (gI g, 14, .inl (oI ((mrM v (rdM y) t).2.1))))] := by
                intro d
                induction d using Nat.strongRecOn with
                | _ d ih83 =>
                  intro t ht hd83
                  refine j_iload_n (pc := 83) hX dX9_layShares_83 1 rfl ?_
                  refine j_bipush (v := 18) (pc := 84) hX dX9_layShares_84 (by decide) ?_
                  refine j_icmp_ge (tgt := 131) (pc := 86) hX dX9_layShares_86 (by decide) (fun c86_17 => ?_) (fun c86_17 => ?_)
                  · skip
                    have c86_17n : 18 ≤ t := (nI_leI (a := 18) (b := t) (by omega) (by omega)).mp c86_17
                    have c86_17m : ¬ t < 18 := by omega
                    have ht18 : t = 18 := by omega
                    subst ht18
                    refine j_goto (tgt := 53) (pc := 131) hX dX9_layShares_131 (by decide) ?_
                    refine j_lvs (lv2 := [(0, .ref m)]) [0] rfl ?_
                    exact j_eq (lv2 := [(0, .ref m)]) (ws2 := [(m, .inr (9, [.ref a0, .ref a1, .int (nI un), .ref a3, .ref a4, .ref a5, .int (nI sg), .ref a7, .ref a8, .int (nI mn), .ref a10, .ref a11, .int (nI (mrM v (rdM y) 18).2.2.1), .int dr, .int (nI (mrM v (rdM y) 18).2.2.2.1), .int (mrM v (rdM y) 18).2.2.2.2])), (a0, .inl (gI g, 60, .inl (nowF v))), (a10, .inl (gI g, 18, .inl (mrM v (rdM y) 18).1)), (a11, .inl (gI g, 14, .inl (oI (mrM v (rdM y) 18).2.1)))]) (by first | rfl | first | (simp only [jb_t, jb_f, c5_1, c5_1n, c5_1m, c68_10, c86_17, c86_17n, c86_17m, reduceIte, eq_self, decide_true, decide_false, Bool.and_true, Bool.true_and, Bool.and_false, Bool.false_and, Bool.and_self, not_true_eq_false, not_false_eq_true, and_true, true_and, and_false, false_and, and_self]; done) | (simp [jb_t, jb_f, c5_1, c5_1n, c5_1m, c68_10, c86_17, c86_17n, c86_17m]; done)) (by first | rfl | first | (simp only [jb_t, jb_f, c5_1, c5_1n, c5_1m, c68_10, c86_17, c86_17n, c86_17m, reduceIte, eq_self, decide_true, decide_false, Bool.and_true, Bool.true_and, Bool.and_false, Bool.false_and, Bool.and_self, not_true_eq_false, not_false_eq_true, and_true, true_and, and_false, false_and, and_self]; done) | (simp [jb_t, jb_f, c5_1, c5_1n, c5_1m, c68_10, c86_17, c86_17n, c86_17m]; done)) (ih53 _ (by omega) (i + 1) (mrM v (rdM y) 18) (by omega) (hgo.2) (mrM_TY (y := rdM y) hv hT 18) rfl)
                  · skip
                    have c86_17n : ¬ 18 ≤ t := fun h9 => c86_17 ((nI_leI (a := 18) (b := t) (by omega) (by omega)).mpr h9)
                    have c86_17m : t < 18 := by omega
                    have hT5 := mrM_TY (y := rdM y) hv hT t
                    refine j_aload_n (pc := 89) hX dX9_layShares_89 0 rfl ?_
                    refine j_get (ci := 9) (pc := 90) hX inG9 rfl 15 (by decide) mw639 0 rfl rfl dX9_layShares_90 ?_
                    refine j_aload_n (pc := 93) hX dX9_layShares_93 0 rfl ?_
                    refine j_aload_n (pc := 94) hX dX9_layShares_94 0 rfl ?_
                    refine j_callVI (n := 0) (As := []) (rest := [.ref m, .int ((mrM v (rdM y) t).2.2.2.2)]) (pc := 95) hX (c_X9_tightSets g m a0 a1 a3 a4 a5 a7 a8 a10 a11 un sg mn ((mrM v (rdM y) t).2.2.1) dr ((mrM v (rdM y) t).2.2.2.1) ((mrM v (rdM y) t).2.2.2.2) ((mrM v (rdM y) t).2.1) (hT5.1)) (CV.of mw750 mw751 mw33 mw52 mw752 ⟨rfl, by decide +kernel, by decide +kernel, by decide +kernel⟩ (T := TX9) (N := 16) rfl) (Nat.le_of_ble_eq_true rfl) (Nat.le_of_ble_eq_true rfl) (Nat.le_of_ble_eq_true rfl) (Nat.le_of_ble_eq_true rfl) 0 rfl [0, 3] (by decide +kernel) rfl rfl rfl (Nat.le_of_ble_eq_true rfl) dX9_layShares_95 (fun r18 wz hq19 => ?_)
                    obtain ⟨rfl, rfl⟩ := hq19
                    refine j_ws (ws2 := [(m, .inr (9, [.ref a0, .ref a1, .int (nI un), .ref a3, .ref a4, .ref a5, .int (nI sg), .ref a7, .ref a8, .int (nI mn), .ref a10, .ref a11, .int (nI ((mrM v (rdM y) t).2.2.1)), .int dr, .int (nI ((mrM v (rdM y) t).2.2.2.1)), .int ((mrM v (rdM y) t).2.2.2.2)])), (a0, .inl (gI g, 60, .inl (nowF v))), (a10, .inl (gI g, 18, .inl ((mrM v (rdM y) t).1))), (a11, .inl (gI g, 14, .inl (oI ((mrM v (rdM y) t).2.1))))]) rfl ?_
                    refine j_callVI (n := 1) (As := [.int (S_ts ((mrM v (rdM y) t).2.1) ((mrM v (rdM y) t).2.2.1))]) (rest := [.int ((mrM v (rdM y) t).2.2.2.2)]) (pc := 98) hX (c_X9_thingsOf g m a0 a1 a3 a4 a5 a7 a8 a10 a11 un sg mn ((mrM v (rdM y) t).2.2.1) dr ((mrM v (rdM y) t).2.2.2.1) ((mrM v (rdM y) t).2.2.2.2) v (S_ts ((mrM v (rdM y) t).2.1) ((mrM v (rdM y) t).2.2.1)) (by first | assumption | omega)) (CV.of mw735 mw736 mw29 mw52 mw737 ⟨rfl, by decide +kernel, by decide +kernel, by decide +kernel⟩ (T := TX9) (N := 16) rfl) (Nat.le_of_ble_eq_true rfl) (Nat.le_of_ble_eq_true rfl) (Nat.le_of_ble_eq_true rfl) (Nat.le_of_ble_eq_true rfl) 0 rfl [0, 1] (by decide +kernel) rfl rfl rfl (Nat.le_of_ble_eq_true rfl) dX9_layShares_98 (fun r20 wz hq21 => ?_)
                    obtain ⟨rfl, rfl⟩ := hq21
                    refine j_ws (ws2 := [(m, .inr (9, [.ref a0, .ref a1, .int (nI un), .ref a3, .ref a4, .ref a5, .int (nI sg), .ref a7, .ref a8, .int (nI mn), .ref a10, .ref a11, .int (nI ((mrM v (rdM y) t).2.2.1)), .int dr, .int (nI ((mrM v (rdM y) t).2.2.2.1)), .int ((mrM v (rdM y) t).2.2.2.2)])), (a0, .inl (gI g, 60, .inl (nowF v))), (a10, .inl (gI g, 18, .inl ((mrM v (rdM y) t).1))), (a11, .inl (gI g, 14, .inl (oI ((mrM v (rdM y) t).2.1))))]) rfl ?_
                    refine j_iconst (v := (-1)) (pc := 101) hX dX9_layShares_101 (by decide) ?_
                    refine j_ixor (pc := 102) hX dX9_layShares_102 ?_
                    refine j_iand (pc := 103) hX dX9_layShares_103 ?_
                    refine j_top (b := lfM v (mrM v (rdM y) t)) (rfl) ?_
                    refine j_iload_n (pc := 104) hX dX9_layShares_104 1 rfl ?_
                    refine j_callSI (n := 2) (As := [.int (lfM v (mrM v (rdM y) t)), .int (nI t)]) (rest := []) (pc := 105) hX (c_X9_has g (lfM v (mrM v (rdM y) t)) t (by first | assumption | omega)) (CS.of mw738 mw739 mw52 mw740 ⟨by decide +kernel, by decide +kernel, by decide +kernel⟩) (Nat.le_of_ble_eq_true rfl) (Nat.le_of_ble_eq_true rfl) (Nat.le_of_ble_eq_true rfl) (Nat.le_of_ble_eq_true rfl) [] (by decide +kernel) rfl rfl rfl (Nat.le_of_ble_eq_true rfl) dX9_layShares_105 (fun r22 wz hq23 => ?_)
                    obtain ⟨rfl, rfl⟩ := hq23
                    refine j_ws (ws2 := [(m, .inr (9, [.ref a0, .ref a1, .int (nI un), .ref a3, .ref a4, .ref a5, .int (nI sg), .ref a7, .ref a8, .int (nI mn), .ref a10, .ref a11, .int (nI ((mrM v (rdM y) t).2.2.1)), .int dr, .int (nI ((mrM v (rdM y) t).2.2.2.1)), .int ((mrM v (rdM y) t).2.2.2.2)])), (a0, .inl (gI g, 60, .inl (nowF v))), (a10, .inl (gI g, 18, .inl ((mrM v (rdM y) t).1))), (a11, .inl (gI g, 14, .inl (oI ((mrM v (rdM y) t).2.1))))]) rfl ?_
                    refine j_if_eq (tgt := 125) (pc := 108) hX dX9_layShares_108 (by decide) (fun c108_24 => ?_) (fun c108_24 => ?_)
                    · skip
                      have c108_24b : (bt (lfM v (mrM v (rdM y) t)) t) = false := jb_0.mp c108_24
                      refine j_iinc (v := nI (t + 1)) (lv2 := [(0, .ref m), (1, .int (nI (t + 1)))]) (pc := 125) hX dX9_layShares_125 1 rfl (nI_add t 1) [1, 0] (by decide) rfl ?_
                      refine j_goto (tgt := 83) (pc := 128) hX dX9_layShares_128 (by decide) ?_
                      exact j_eq (lv2 := [(0, .ref m), (1, .int (nI (t + 1)))]) (ws2 := [(m, .inr (9, [.ref a0, .ref a1, .int (nI un), .ref a3, .ref a4, .ref a5, .int (nI sg), .ref a7, .ref a8, .int (nI mn), .ref a10, .ref a11, .int (nI ((mrM v (rdM y) (t + 1)).2.2.1)), .int dr, .int (nI ((mrM v (rdM y) (t + 1)).2.2.2.1)), .int ((mrM v (rdM y) (t + 1)).2.2.2.2)])), (a0, .inl (gI g, 60, .inl (nowF v))), (a10, .inl (gI g, 18, .inl ((mrM v (rdM y) (t + 1)).1))), (a11, .inl (gI g, 14, .inl (oI ((mrM v (rdM y) (t + 1)).2.1))))]) (by first | rfl | (rw [mrM, if_pos c108_24b]; rfl) | (rw [mrM, if_neg (nbt c108_24b)])) (by first | rfl | (rw [mrM, if_pos c108_24b]; rfl) | (rw [mrM, if_neg (nbt c108_24b)])) (ih83 _ (by omega) (t + 1) (by omega) rfl)
                    · skip
                      have c108_24b : (bt (lfM v (mrM v (rdM y) t)) t) = true := jb_1.mp c108_24
                      refine j_aload_n (pc := 111) hX dX9_layShares_111 0 rfl ?_
                      refine j_get (ci := 9) (pc := 112) hX inG9 rfl 10 (by decide) mw634 0 rfl rfl dX9_layShares_112 ?_
                      refine j_iload_n (pc := 115) hX dX9_layShares_115 1 rfl ?_
                      refine j_dup2 (pc := 116) hX dX9_layShares_116 rfl rfl ?_
                      refine j_iald (pc := 117) hX 2 rfl t rfl (by omega) (by omega) dX9_layShares_117 ?_
                      refine j_iconst (v := 1) (pc := 118) hX dX9_layShares_118 (by decide) ?_
                      refine j_iadd (pc := 119) hX dX9_layShares_119 ?_
                      refine j_iast (pc := 120) hX 2 rfl t rfl (by omega) (by omega) dX9_layShares_120 ?_
                      refine j_ws (ws2 := [(m, .inr (9, [.ref a0, .ref a1, .int (nI un), .ref a3, .ref a4, .ref a5, .int (nI sg), .ref a7, .ref a8, .int (nI mn), .ref a10, .ref a11, .int (nI ((mrM v (rdM y) t).2.2.1)), .int dr, .int (nI ((mrM v (rdM y) t).2.2.2.1)), .int ((mrM v (rdM y) t).2.2.2.2)])), (a0, .inl (gI g, 60, .inl (nowF v))), (a10, .inl (gI g, 18, .inl (upd ((mrM v (rdM y) t).1) t ((((mrM v (rdM y) t).1) t) + 1)))), (a11, .inl (gI g, 14, .inl (oI ((mrM v (rdM y) t).2.1))))]) rfl ?_
                      refine j_aload_n (pc := 121) hX dX9_layShares_121 0 rfl ?_
                      refine j_callVV (n := 0) (As := []) (rest := []) (pc := 122) hX (c_X9_tighten g m a0 a1 a3 a4 a5 a7 a8 a10 a11 un sg mn dr ((mrM v (rdM y) t).2.2.2.1) ((mrM v (rdM y) t).2.2.2.2) v (upd ((mrM v (rdM y) t).1) t ((((mrM v (rdM y) t).1) t) + 1)) ((mrM v (rdM y) t).2.1, (mrM v (rdM y) t).2.2.1) (by first | assumption | omega) (hT5)) (CV.of mw753 mw754 mw34 mw52 mw755 ⟨rfl, by decide +kernel, by decide +kernel, by decide +kernel⟩ (T := TX9) (N := 16) rfl) (Nat.le_of_ble_eq_true rfl) (Nat.le_of_ble_eq_true rfl) (Nat.le_of_ble_eq_true rfl) (Nat.le_of_ble_eq_true rfl) 0 rfl [0, 1, 2, 3] (by decide +kernel) rfl rfl rfl (Nat.le_of_ble_eq_true rfl) dX9_layShares_122 (fun wz wnz hq26 => ?_)
                      obtain ⟨rfl, rfl⟩ := hq26
                      refine j_ws (ws2 := [(m, .inr (9, [.ref a0, .ref a1, .int (nI un), .ref a3, .ref a4, .ref a5, .int (nI sg), .ref a7, .ref a8, .int (nI mn), .ref a10, .ref a11, .int (nI ((tG v ((mrM v (rdM y) t).2.2.2.2) (upd ((mrM v (rdM y) t).1) t ((((mrM v (rdM y) t).1) t) + 1)) ((mrM v (rdM y) t).2.1, (mrM v (rdM y) t).2.2.1) v.2.1).2)), .int dr, .int (nI ((mrM v (rdM y) t).2.2.2.1)), .int ((mrM v (rdM y) t).2.2.2.2)])), (a0, .inl (gI g, 60, .inl (nowF v))), (a10, .inl (gI g, 18, .inl (upd ((mrM v (rdM y) t).1) t ((((mrM v (rdM y) t).1) t) + 1)))), (a11, .inl (gI g, 14, .inl (oI ((tG v ((mrM v (rdM y) t).2.2.2.2) (upd ((mrM v (rdM y) t).1) t ((((mrM v (rdM y) t).1) t) + 1)) ((mrM v (rdM y) t).2.1, (mrM v (rdM y) t).2.2.1) v.2.1).1))))]) rfl ?_
                      refine j_iinc (v := nI (t + 1)) (lv2 := [(0, .ref m), (1, .int (nI (t + 1)))]) (pc := 125) hX dX9_layShares_125 1 rfl (nI_add t 1) [1, 0] (by decide) rfl ?_
                      refine j_goto (tgt := 83) (pc := 128) hX dX9_layShares_128 (by decide) ?_
                      exact j_eq (lv2 := [(0, .ref m), (1, .int (nI (t + 1)))]) (ws2 := [(m, .inr (9, [.ref a0, .ref a1, .int (nI un), .ref a3, .ref a4, .ref a5, .int (nI sg), .ref a7, .ref a8, .int (nI mn), .ref a10, .ref a11, .int (nI ((mrM v (rdM y) (t + 1)).2.2.1)), .int dr, .int (nI ((mrM v (rdM y) (t + 1)).2.2.2.1)), .int ((mrM v (rdM y) (t + 1)).2.2.2.2)])), (a0, .inl (gI g, 60, .inl (nowF v))), (a10, .inl (gI g, 18, .inl ((mrM v (rdM y) (t + 1)).1))), (a11, .inl (gI g, 14, .inl (oI ((mrM v (rdM y) (t + 1)).2.1))))]) (by first | rfl | (rw [mrM, if_pos c108_24b]; rfl) | (rw [mrM, if_neg (nbt c108_24b)])) (by first | rfl | (rw [mrM, if_pos c108_24b]; rfl) | (rw [mrM, if_neg (nbt c108_24b)])) (ih83 _ (by omega) (t + 1) (by omega) rfl)
              exact j_eq (lv2 := [(0, .ref m), (1, .int (nI 0))]) (ws2 := [(m, .inr (9, [.ref a0, .ref a1, .int (nI un), .ref a3, .ref a4, .ref a5, .int (nI sg), .ref a7, .ref a8, .int (nI mn), .ref a10, .ref a11, .int (nI ((mrM v (rdM y) 0).2.2.1)), .int dr, .int (nI ((mrM v (rdM y) 0).2.2.2.1)), .int ((mrM v (rdM y) 0).2.2.2.2)])), (a0, .inl (gI g, 60, .inl (nowF v))), (a10, .inl (gI g, 18, .inl ((mrM v (rdM y) 0).1))), (a11, .inl (gI g, 14, .inl (oI ((mrM v (rdM y) 0).2.1))))]) (rfl) (rfl) (L83 _ 0 (by omega) rfl)
        refine j_lvs (lv2 := [(0, .ref m)]) [0] rfl ?_
        exact j_eq (lv2 := [(0, .ref m)]) (ws2 := [(m, .inr (9, [.ref a0, .ref a1, .int (nI un), .ref a3, .ref a4, .ref a5, .int (nI sg), .ref a7, .ref a8, .int (nI mn), .ref a10, .ref a11, .int (nI (m0M v o).2.2.1), .int dr, .int (nI (m0M v o).2.2.2.1), .int (m0M v o).2.2.2.2])), (a0, .inl (gI g, 60, .inl (nowF v))), (a10, .inl (gI g, 18, .inl (m0M v o).1)), (a11, .inl (gI g, 14, .inl (oI (m0M v o).2.1)))]) (rfl) (rfl) (L53 _ 0 (m0M v o) (by omega) (rfl) (⟨Nat.zero_le 14, ho, fun j hj => absurd hj (Nat.not_lt_zero j), fun i j _ hj => absurd hj (Nat.not_lt_zero j)⟩) rfl)
      · skip
        have c5_1n : ¬ 18 ≤ t := fun h9 => c5_1 ((nI_leI (a := 18) (b := t) (by omega) (by omega)).mpr h9)
        have c5_1m : t < 18 := by omega
        refine j_aload_n (pc := 8) hX dX9_layShares_8 0 rfl ?_
        refine j_get (ci := 9) (pc := 9) hX inG9 rfl 10 (by decide) mw634 0 rfl rfl dX9_layShares_9 ?_
        refine j_iload_n (pc := 12) hX dX9_layShares_12 1 rfl ?_
        refine j_iconst (v := 0) (pc := 13) hX dX9_layShares_13 (by decide) ?_
        refine j_iast (pc := 14) hX 2 rfl t rfl (by omega) (by omega) dX9_layShares_14 ?_
        refine j_ws (ws2 := [(m, .inr (9, [.ref a0, .ref a1, .int (nI un), .ref a3, .ref a4, .ref a5, .int (nI sg), .ref a7, .ref a8, .int (nI mn), .ref a10, .ref a11, .int (nI ti), .int dr, .int (nI rd), .int op])), (a0, .inl (gI g, 60, .inl (nowF v))), (a10, .inl (gI g, 18, .inl (upd (S_fill 0 ra t) t 0))), (a11, .inl (gI g, 14, .inl (oI o)))]) rfl ?_
        refine j_iinc (v := nI (t + 1)) (lv2 := [(0, .ref m), (1, .int (nI (t + 1)))]) (pc := 15) hX dX9_layShares_15 1 rfl (nI_add t 1) [1, 0] (by decide) rfl ?_
        refine j_goto (tgt := 2) (pc := 18) hX dX9_layShares_18 (by decide) ?_
        exact j_eq (lv2 := [(0, .ref m), (1, .int (nI (t + 1)))]) (ws2 := [(m, .inr (9, [.ref a0, .ref a1, .int (nI un), .ref a3, .ref a4, .ref a5, .int (nI sg), .ref a7, .ref a8, .int (nI mn), .ref a10, .ref a11, .int (nI ti), .int dr, .int (nI rd), .int op])), (a0, .inl (gI g, 60, .inl (nowF v))), (a10, .inl (gI g, 18, .inl (S_fill 0 ra (t + 1)))), (a11, .inl (gI g, 14, .inl (oI o)))]) (by first | rfl | rw [S_fill_s]) (by first | rfl | rw [S_fill_s]) (ih2 _ (by omega) (t + 1) (by omega) rfl)
  exact j_eq (lv2 := [(0, .ref m), (1, .int (nI 0))]) (ws2 := [(m, .inr (9, [.ref a0, .ref a1, .int (nI un), .ref a3, .ref a4, .ref a5, .int (nI sg), .ref a7, .ref a8, .int (nI mn), .ref a10, .ref a11, .int (nI ti), .int dr, .int (nI rd), .int op])), (a0, .inl (gI g, 60, .inl (nowF v))), (a10, .inl (gI g, 18, .inl (S_fill 0 ra 0))), (a11, .inl (gI g, 14, .inl (oI o)))]) (by first | rfl | rw [S_fill_0]) (by first | rfl | rw [S_fill_0]) (L2 _ 0 (by omega) rfl)

