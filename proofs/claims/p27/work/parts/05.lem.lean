/-! ===== Int32 by its bits: bt x i ===== -/
def bt (x : Int32) (i : Nat) : Bool := x.toBitVec.getLsbD i
theorem b_ext {x y : Int32} (h : ∀ i, i < 32 → bt x i = bt y i) : x = y := Int32.toBitVec_inj.mp (BitVec.eq_of_getLsbD_eq (fun i hi => h i hi))
theorem b_or (x y : Int32) (i : Nat) : bt (x ||| y) i = (bt x i || bt y i) := by unfold bt; rw [Int32.toBitVec_or, BitVec.getLsbD_or]
theorem b_and (x y : Int32) (i : Nat) : bt (x &&& y) i = (bt x i && bt y i) := by unfold bt; rw [Int32.toBitVec_and, BitVec.getLsbD_and]
theorem b_xor (x y : Int32) (i : Nat) : bt (x ^^^ y) i = (bt x i ^^ bt y i) := by unfold bt; rw [Int32.toBitVec_xor, BitVec.getLsbD_xor]
theorem b_big {x : Int32} {i : Nat} (h : 32 ≤ i) : bt x i = false := BitVec.getLsbD_of_ge _ _ h
theorem b_255 (i : Nat) : bt 255 i = decide (i < 8) := by
  rcases Nat.lt_or_ge i 32 with h | h
  · exact (by decide +kernel : ∀ i, i < 32 → bt 255 i = decide (i < 8)) i h
  · rw [b_big h, decide_eq_false (by omega)]
theorem b_65535 (i : Nat) : bt 65535 i = decide (i < 16) := by
  rcases Nat.lt_or_ge i 32 with h | h
  · exact (by decide +kernel : ∀ i, i < 32 → bt 65535 i = decide (i < 16)) i h
  · rw [b_big h, decide_eq_false (by omega)]
theorem b_m1 : ∀ i, i < 32 → bt (-1) i = true := by decide +kernel
theorem b_0 (i : Nat) : bt 0 i = false := BitVec.getLsbD_zero
theorem s_l : ∀ n, n < 32 → ((nI n &&& 31).toBitVec.smod 32).toNat = n := by decide +kernel
theorem s_u : ∀ n, n < 32 → (((nI n).toUInt32 &&& Int32.toUInt32 31).toBitVec % 32).toNat = n := by decide +kernel
theorem b_shl (n : Nat) (hn : n < 32) (x : Int32) {i : Nat} (hi : i < 32) : bt (x <<< (nI n &&& 31)) i = (decide (n ≤ i) && bt x (i - n)) := by
  unfold bt
  rw [Int32.toBitVec_shiftLeft]
  show (x.toBitVec <<< ((nI n &&& 31).toBitVec.smod 32).toNat).getLsbD i = _
  rw [s_l n hn, BitVec.getLsbD_shiftLeft]
  rcases Nat.lt_or_ge i n with h | h
  · simp [h, Nat.not_le.mpr h]
  · simp [hi, h, Nat.not_lt.mpr h]
theorem b_ushr (n : Nat) (hn : n < 32) (x : Int32) (i : Nat) : bt ((x.toUInt32 >>> ((nI n).toUInt32 &&& Int32.toUInt32 31)).toInt32) i = bt x (n + i) := by
  show (x.toUInt32 >>> ((nI n).toUInt32 &&& Int32.toUInt32 31)).toBitVec.getLsbD i = x.toUInt32.toBitVec.getLsbD (n + i)
  rw [UInt32.toBitVec_shiftRight]
  show (x.toUInt32.toBitVec >>> (((nI n).toUInt32 &&& Int32.toUInt32 31).toBitVec % 32).toNat).getLsbD i = _
  rw [s_u n hn, BitVec.getLsbD_ushiftRight]
theorem b_sshr (n : Nat) (hn : n < 32) (x : Int32) {i : Nat} (hi : i < 32) : bt (x >>> (nI n &&& 31)) i = if n + i < 32 then bt x (n + i) else bt x 31 := by
  unfold bt
  rw [Int32.toBitVec_shiftRight]
  show (x.toBitVec.sshiftRight ((nI n &&& 31).toBitVec.smod 32).toNat).getLsbD i = _
  rw [s_l n hn, BitVec.getLsbD_sshiftRight, BitVec.msb_eq_getLsbD_last]
  simp [hi]
theorem b_shl8 (x : Int32) {i : Nat} (hi : i < 32) : bt (x <<< ((8 : Int32) &&& 31)) i = (decide (8 ≤ i) && bt x (i - 8)) := b_shl 8 (by omega) x hi
theorem b_shl16 (x : Int32) {i : Nat} (hi : i < 32) : bt (x <<< ((16 : Int32) &&& 31)) i = (decide (16 ≤ i) && bt x (i - 16)) := b_shl 16 (by omega) x hi
theorem b_shl24 (x : Int32) {i : Nat} (hi : i < 32) : bt (x <<< ((24 : Int32) &&& 31)) i = (decide (24 ≤ i) && bt x (i - 24)) := b_shl 24 (by omega) x hi
theorem b_sshr8 (x : Int32) {i : Nat} (hi : i < 32) : bt (x >>> ((8 : Int32) &&& 31)) i = if 8 + i < 32 then bt x (8 + i) else bt x 31 := b_sshr 8 (by omega) x hi
/-! small rows for J -/
section JSMALL
variable {g : jG} {x : jC} {nL pc cs sl : Nat} {lv lv2 : List (Nat × Value)} {st : List Value} {ws ws2 : va_W}
theorem j_lv (h : lv = lv2) (kk : J g x nL cs sl pc lv2 st ws) : J g x nL cs sl pc lv st ws := h ▸ kk
theorem j_ws (h : ws = ws2) (kk : J g x nL cs sl pc lv st ws2) : J g x nL cs sl pc lv st ws := h ▸ kk
theorem j_eq (h : lv = lv2) (h2 : ws = ws2) (kk : J g x nL cs sl pc lv2 st ws2) : J g x nL cs sl pc lv st ws := h ▸ h2 ▸ kk
theorem j_lvs (ks : List Nat) (h : lv_pick lv ks = lv2) (kk : J g x nL cs sl pc lv2 st ws) : J g x nL cs sl pc lv st ws := by
  obtain ⟨p, e, R, s, m, args, below, meth, c, Q, A⟩ := x
  intro H locs ls hP hD hS hls
  exact kk H locs ls hP hD hS (lv_sub hls ks h)
/-- a row's contents, said otherwise within its length -/
theorem j_cong (q0 : Nat) {a n : Nat} {cA : ClassId} {f : Nat → Int32} (f2 : Nat → Int32) (ha : ws[q0]? = some (a, .inl (cA, n, .inl f))) (hff : ∀ j, j < n → f j = f2 j) (kk : J g x nL cs sl pc lv st (ws.set q0 (a, .inl (cA, n, .inl f2)))) : J g x nL cs sl pc lv st ws := by
  obtain ⟨p, e, R, s, m, args, below, meth, c, Q, A⟩ := x
  intro H locs ls hP hD hS hls
  have hc : vp_cell cA (n, .inl f) = vp_cell cA (n, .inl f2) := by
    rw [vp_cell_i, vp_cell_i]
    unfold arrV
    congr 2
    funext j
    exact congrArg Value.int (hff j.val j.isLt)
  refine kk H locs ls (fun k q hk => ?_) (hD.set ha) hS hls
  by_cases hkq : k = q0
  · subst hkq
    rw [List.getElem?_set_self (List.getElem?_eq_some_iff.mp ha).1] at hk
    cases hk
    have h1 : H[a]? = some (vp_cell cA (n, .inl f)) := hP k _ ha
    show H[a]? = some (vp_cell cA (n, .inl f2))
    rw [h1, hc]
  · rw [List.getElem?_set_ne (Ne.symm hkq)] at hk
    exact hP k q hk
end JSMALL
/-- a State's contents (needed, how many sets, things, prices, marks), its addresses -/
abbrev StT : Type := Int32 × Nat × (Nat → Int32) × (Nat → Int32) × (Nat → Int32)
abbrev adT : Type := Nat × Nat × Nat × Nat
/-- a row of references, by its list -/
def lk (l : List (Option Nat)) : Nat → Option Nat := fun j => l.getD j none
theorem lk_up {l : List (Option Nat)} {k : Nat} {v : Nat} (h : k < l.length) : va_up (lk l) k (some v) = lk (l.set k (some v)) := by
  funext j
  unfold va_up lk
  by_cases hj : j = k
  · subst hj
    simp [List.getD, h]
  · have hj2 : k ≠ j := fun q => hj q.symm
    simp [List.getD, hj, List.getElem?_set_ne hj2]
theorem lk_none6 : (fun _ => none : Nat → Option Nat) = lk [none, none, none, none, none, none] := by
  funext j
  match j with
  | 0 | 1 | 2 | 3 | 4 | 5 => rfl
  | j + 6 => rfl
theorem lk_none2 : (fun _ => none : Nat → Option Nat) = lk [none, none] := by
  funext j
  match j with
  | 0 | 1 => rfl
  | j + 2 => rfl
/-- a boolean's int -/
def jb (b : Bool) : Int32 := if b = true then 1 else 0
theorem jb_0 {b : Bool} : jb b = 0 ↔ b = false := by cases b <;> decide
theorem jb_1 {b : Bool} : ¬ jb b = 0 ↔ b = true := by cases b <;> decide
theorem jb_nar (b : Bool) : narrow .boolean (.int (jb b)) = .int (jb b) := by cases b <;> rfl
theorem jb_t : jb true = 1 := rfl
theorem jb_f : jb false = 0 := rfl
theorem jb_e {b : Bool} (h : b = true) : jb b = 1 := by rw [h]; rfl
theorem jb_n {b : Bool} (h : b = false) : jb b = 0 := by rw [h]; rfl
/-- bit k by itself -/
def bI (k : Nat) : Int32 := (1 : Int32) <<< (nI k &&& 31)
theorem bt_1 : ∀ i, i < 32 → bt 1 i = decide (i = 0) := by decide +kernel
theorem bt_bI {k i : Nat} (hk : k < 32) (hi : i < 32) : bt (bI k) i = decide (i = k) := by
  unfold bI
  rw [b_shl k hk 1 hi]
  by_cases h : k ≤ i
  · rw [bt_1 (i - k) (by omega)]
    simp only [h, decide_true, Bool.true_and]
    exact decide_eq_decide.mpr (by omega)
  · simp [h]
    omega
theorem bt_z (i : Nat) : bt 0 i = false := b_0 i
theorem b_sh1 {m : Int32} {k : Nat} (hk : k < 32) : (m >>> (nI k &&& 31)) &&& 1 = jb (bt m k) := by
  apply b_ext
  intro i hi
  rw [b_and, b_sshr k hk m hi, bt_1 i hi]
  by_cases h0 : i = 0
  · subst h0
    rw [Nat.add_zero, if_pos hk]
    cases bt m k <;> rfl
  · cases h : bt m k <;> simp [h0, jb, b_0, bt_1 i hi]
theorem b_not (x : Int32) {i : Nat} (hi : i < 32) : bt (x ^^^ (-1)) i = !(bt x i) := by
  rw [b_xor, b_m1 i hi]
  cases bt x i <;> rfl

theorem jsw0_7 {v : Int32} (h0 : ¬ v = 0) (h1 : ¬ v = 1) (h2 : ¬ v = 2) (h3 : ¬ v = 3) (h4 : ¬ v = 4) (h5 : ¬ v = 5) (h6 : ¬ v = 6) (h7 : ¬ v = 7) : v.toInt < 0 ∨ 7 < v.toInt := by
  have e0 := lv_neT h0 (show (0 : Int32).toInt = 0 by decide)
  have e1 := lv_neT h1 (show (1 : Int32).toInt = 1 by decide)
  have e2 := lv_neT h2 (show (2 : Int32).toInt = 2 by decide)
  have e3 := lv_neT h3 (show (3 : Int32).toInt = 3 by decide)
  have e4 := lv_neT h4 (show (4 : Int32).toInt = 4 by decide)
  have e5 := lv_neT h5 (show (5 : Int32).toInt = 5 by decide)
  have e6 := lv_neT h6 (show (6 : Int32).toInt = 6 by decide)
  have e7 := lv_neT h7 (show (7 : Int32).toInt = 7 by decide)
  omega
theorem jsw3_5 {v : Int32} (h3 : ¬ v = 3) (h4 : ¬ v = 4) (h5 : ¬ v = 5) : v.toInt < 3 ∨ 5 < v.toInt := by
  have e3 := lv_neT h3 (show (3 : Int32).toInt = 3 by decide)
  have e4 := lv_neT h4 (show (4 : Int32).toInt = 4 by decide)
  have e5 := lv_neT h5 (show (5 : Int32).toInt = 5 by decide)
  omega
theorem jsw0_2 {v : Int32} (h0 : ¬ v = 0) (h1 : ¬ v = 1) (h2 : ¬ v = 2) : v.toInt < 0 ∨ 2 < v.toInt := by
  have e0 := lv_neT h0 (show (0 : Int32).toInt = 0 by decide)
  have e1 := lv_neT h1 (show (1 : Int32).toInt = 1 by decide)
  have e2 := lv_neT h2 (show (2 : Int32).toInt = 2 by decide)
  omega
theorem jsw0_5 {v : Int32} (h0 : ¬ v = 0) (h1 : ¬ v = 1) (h2 : ¬ v = 2) (h3 : ¬ v = 3) (h4 : ¬ v = 4) (h5 : ¬ v = 5) : v.toInt < 0 ∨ 5 < v.toInt := by
  have e0 := lv_neT h0 (show (0 : Int32).toInt = 0 by decide)
  have e1 := lv_neT h1 (show (1 : Int32).toInt = 1 by decide)
  have e2 := lv_neT h2 (show (2 : Int32).toInt = 2 by decide)
  have e3 := lv_neT h3 (show (3 : Int32).toInt = 3 by decide)
  have e4 := lv_neT h4 (show (4 : Int32).toInt = 4 by decide)
  have e5 := lv_neT h5 (show (5 : Int32).toInt = 5 by decide)
  omega
theorem jsw0_4 {v : Int32} (h0 : ¬ v = 0) (h1 : ¬ v = 1) (h2 : ¬ v = 2) (h3 : ¬ v = 3) (h4 : ¬ v = 4) : v.toInt < 0 ∨ 4 < v.toInt := by
  have e0 := lv_neT h0 (show (0 : Int32).toInt = 0 by decide)
  have e1 := lv_neT h1 (show (1 : Int32).toInt = 1 by decide)
  have e2 := lv_neT h2 (show (2 : Int32).toInt = 2 by decide)
  have e3 := lv_neT h3 (show (3 : Int32).toInt = 3 by decide)
  have e4 := lv_neT h4 (show (4 : Int32).toInt = 4 by decide)
  omega
theorem jsw0_23 {v : Int32} (h0 : ¬ v = 0) (h1 : ¬ v = 1) (h2 : ¬ v = 2) (h3 : ¬ v = 3) (h4 : ¬ v = 4) (h5 : ¬ v = 5) (h6 : ¬ v = 6) (h7 : ¬ v = 7) (h8 : ¬ v = 8) (h9 : ¬ v = 9) (h10 : ¬ v = 10) (h11 : ¬ v = 11) (h12 : ¬ v = 12) (h13 : ¬ v = 13) (h14 : ¬ v = 14) (h15 : ¬ v = 15) (h16 : ¬ v = 16) (h17 : ¬ v = 17) (h18 : ¬ v = 18) (h19 : ¬ v = 19) (h20 : ¬ v = 20) (h21 : ¬ v = 21) (h22 : ¬ v = 22) (h23 : ¬ v = 23) : v.toInt < 0 ∨ 23 < v.toInt := by
  have e0 := lv_neT h0 (show (0 : Int32).toInt = 0 by decide)
  have e1 := lv_neT h1 (show (1 : Int32).toInt = 1 by decide)
  have e2 := lv_neT h2 (show (2 : Int32).toInt = 2 by decide)
  have e3 := lv_neT h3 (show (3 : Int32).toInt = 3 by decide)
  have e4 := lv_neT h4 (show (4 : Int32).toInt = 4 by decide)
  have e5 := lv_neT h5 (show (5 : Int32).toInt = 5 by decide)
  have e6 := lv_neT h6 (show (6 : Int32).toInt = 6 by decide)
  have e7 := lv_neT h7 (show (7 : Int32).toInt = 7 by decide)
  have e8 := lv_neT h8 (show (8 : Int32).toInt = 8 by decide)
  have e9 := lv_neT h9 (show (9 : Int32).toInt = 9 by decide)
  have e10 := lv_neT h10 (show (10 : Int32).toInt = 10 by decide)
  have e11 := lv_neT h11 (show (11 : Int32).toInt = 11 by decide)
  have e12 := lv_neT h12 (show (12 : Int32).toInt = 12 by decide)
  have e13 := lv_neT h13 (show (13 : Int32).toInt = 13 by decide)
  have e14 := lv_neT h14 (show (14 : Int32).toInt = 14 by decide)
  have e15 := lv_neT h15 (show (15 : Int32).toInt = 15 by decide)
  have e16 := lv_neT h16 (show (16 : Int32).toInt = 16 by decide)
  have e17 := lv_neT h17 (show (17 : Int32).toInt = 17 by decide)
  have e18 := lv_neT h18 (show (18 : Int32).toInt = 18 by decide)
  have e19 := lv_neT h19 (show (19 : Int32).toInt = 19 by decide)
  have e20 := lv_neT h20 (show (20 : Int32).toInt = 20 by decide)
  have e21 := lv_neT h21 (show (21 : Int32).toInt = 21 by decide)
  have e22 := lv_neT h22 (show (22 : Int32).toInt = 22 by decide)
  have e23 := lv_neT h23 (show (23 : Int32).toInt = 23 by decide)
  omega
