/-! the shares: rounds -/
def SI (v : StT) (z : SHT) (y : MT) (c : Nat → Nat) : Prop :=
  SJ v z y.2.2.2.2 (y.2.1, y.2.2.1) c c 0 ∧ (∀ t, t < 18 → z.2.2.2.2.2.2.1 t = nI (c t) ∧ y.1 t = nI (c t)) ∧ z.2.2.1 = y.2.2.2.1 ∧ z.2.2.2.2.2.1 = 0
theorem SI_lf {v : StT} {z : SHT} {y : MT} {c : Nat → Nat} (h : SI v z y c) : lf z = lfM v y := by
  obtain ⟨⟨a1, -, -, -, a5, a6, -⟩, -⟩ := h
  show z.1 &&& (z.2.1 ^^^ (-1)) = _
  rw [a1, a6, a5]
  rfl
theorem SJ_sw {v : StT} {z : SHT} {op : Int32} {p : OT} {c c1 c2 : Nat → Nat} (h : SJ v z op p c c1 0) : SJ v z op p c c2 0 := by
  obtain ⟨a1, a2, a3, a4, a5, a6, a7, a8, a9, a10⟩ := h
  refine ⟨a1, a2, a3, a4, a5, a6, fun k hk hM => ?_, a8, a9, fun k hk hM hp q hq hq5 => ?_⟩
  · have := a7 k hk hM
    rwa [if_neg (Nat.not_lt_zero k)] at this ⊢
  · have := a10 k hk hM hp q hq hq5
    rwa [if_neg (Nat.not_lt_zero k)] at this ⊢
theorem SJ_end {v : StT} {z : SHT} {op : Int32} {p : OT} {c c2 : Nat → Nat} (h : SJ v z op p c c2 v.2.1) : SJ v z op p c2 c2 0 := by
  obtain ⟨a1, a2, a3, a4, a5, a6, a7, a8, a9, a10⟩ := h
  refine ⟨a1, a2, a3, a4, a5, a6, fun k hk hM => ?_, a8, a9, fun k hk hM hp q hq hq5 => ?_⟩
  · have := a7 k hk hM
    rw [if_pos hk] at this
    rwa [if_neg (Nat.not_lt_zero k)]
  · have := a10 k hk hM hp q hq hq5
    rw [if_pos hk] at this
    rwa [if_neg (Nat.not_lt_zero k)]
/-- the order only grows -/
theorem tG_pre (v : StT) (op : Int32) (ra : Nat → Int32) (p : OT) : ∀ k, p.2 ≤ (tG v op ra p k).2 ∧ ∀ j, j < p.2 → (tG v op ra p k).1 j = p.1 j
  | 0 => ⟨Nat.le_refl _, fun _ _ => rfl⟩
  | k + 1 => by
    obtain ⟨h1, h2⟩ := tG_pre v op ra p k
    rw [tG]
    split
    · split
      · exact ⟨h1, h2⟩
      · split
        · refine ⟨by show p.2 ≤ _ + 1; omega, fun j hj => ?_⟩
          show updN _ _ _ j = _
          rw [updE, if_neg (by omega)]
          exact h2 j hj
        · exact ⟨h1, h2⟩
    · exact ⟨h1, h2⟩
theorem TI_32 {v : StT} {p : OT} (hv : v.2.1 ≤ 14) (h : TI v p) : ∀ j, j < p.2 → p.1 j < 32 := fun j hj => by
  have := h.2.2.1 j hj
  omega
/-- what is left in the end was left before -/
theorem lf_bit {v : StT} {y : MT} {t : Nat} (ht : t < 32) (hv : v.2.1 ≤ 14) (hT : TY v y) : bt (lfM v y) t = true ↔ bt y.2.2.2.2 t = true ∧ ∀ j, j < y.2.2.1 → bt (v.2.2.1 (y.2.1 j)) t = false := by
  have h32 := TI_32 hv hT
  unfold lfM
  rw [b_and, b_not _ ht, Bool.and_eq_true]
  constructor
  · rintro ⟨h1, h2⟩
    refine ⟨h1, fun j hj => ?_⟩
    cases hb : bt (v.2.2.1 (y.2.1 j)) t with
    | false => rfl
    | true =>
      exfalso
      have : bt (S_or v.2.2.1 (S_ts y.2.1 y.2.2.1) v.2.1) t = true := or_bit.mpr ⟨y.2.1 j, hT.2.2.1 j hj, (ts_bit (h32 j hj) _ h32).mpr ⟨j, hj, rfl⟩, hb⟩
      rw [this] at h2
      cases h2
  · rintro ⟨h1, h2⟩
    refine ⟨h1, ?_⟩
    cases hb : bt (S_or v.2.2.1 (S_ts y.2.1 y.2.2.1) v.2.1) t with
    | false => rfl
    | true =>
      exfalso
      obtain ⟨i, hi, hm, hib⟩ := or_bit.mp hb
      obtain ⟨j, hj, hji⟩ := (ts_bit (by omega) _ h32).mp hm
      have := h2 j hj
      rw [hji, hib] at this
      cases this
theorem rt_sim {v : StT} (hok : okS v) {z : SHT} {y : MT} {c : Nat → Nat} {t : Nat} (ht : t < 18) (h : SI v z y c) (hl : bt (lfM v y) t = true) : SI v (fS v t v.2.1 (rU z t)) (rtM v y t) (updN c t (c t + 1)) := by
  obtain ⟨hJ, hra, hrd, hdr⟩ := h
  have hT : TY v y := hJ.2.2.2.1
  obtain ⟨hop, hnt⟩ := (lf_bit (by omega) hok.1 hT).mp hl
  have hra2 : ∀ t2, t2 < 18 → upd y.1 t (y.1 t + 1) t2 = nI (updN c t (c t + 1) t2) := fun t2 h2 => by
    rw [upE, updE]
    by_cases he : t2 = t
    · rw [if_pos he, if_pos he, (hra t ht).2]
      exact nI_add _ 1
    · rw [if_neg he, if_neg he]
      exact (hra t2 h2).2
  have hJ2 : SJ v (rU z t) y.2.2.2.2 (y.2.1, y.2.2.1) c (updN c t (c t + 1)) 0 := SJ_sw (c1 := c) hJ
  obtain ⟨g1, -, g3, g4, g5⟩ := SJ_step hok ht hop hra2 hnt v.2.1 (Nat.le_refl _) hJ2
  refine ⟨SJ_end g1, fun t2 h2 => ⟨?_, hra2 t2 h2⟩, ?_, ?_⟩
  · rw [g3]
    show upd z.2.2.2.2.2.2.1 t (z.2.2.2.2.2.2.1 t + 1) t2 = _
    rw [upE, updE]
    by_cases he : t2 = t
    · rw [if_pos he, if_pos he, (hra t ht).1]
      exact nI_add _ 1
    · rw [if_neg he, if_neg he]
      exact (hra t2 h2).1
  · rw [g4]; exact hrd
  · rw [g5]; exact hdr
def LC (v : StT) (y : MT) (c : Nat → Nat) (r t : Nat) : Prop := ∀ t2, t2 < 18 → bt (lfM v y) t2 = true → c t2 = if t2 < t then r + 1 else r
theorem rt_left {v : StT} (hv : v.2.1 ≤ 14) {y : MT} {t t2 : Nat} (ht2 : t2 < 32) (hT : TY v y) (hT2 : TY v (rtM v y t)) (h : bt (lfM v (rtM v y t)) t2 = true) : bt (lfM v y) t2 = true := by
  obtain ⟨h1, h2⟩ := (lf_bit ht2 hv hT2).mp h
  obtain ⟨p1, p2⟩ := tG_pre v y.2.2.2.2 (upd y.1 t (y.1 t + 1)) (y.2.1, y.2.2.1) v.2.1
  refine (lf_bit ht2 hv hT).mpr ⟨h1, fun j hj => ?_⟩
  have h3 := h2 j (Nat.lt_of_lt_of_le hj p1)
  have h4 : (rtM v y t).2.1 j = y.2.1 j := p2 j hj
  rw [h4] at h3
  exact h3
theorem mR_sim {v : StT} (hok : okS v) {z : SHT} {y : MT} {c : Nat → Nat} {r : Nat} (h : SI v z y c) (hL : LC v y c r 0) : ∀ t, t ≤ 18 → ∃ c2, SI v (mR v t z) (mrM v y t) c2 ∧ LC v (mrM v y t) c2 r t ∧ (mrM v y t).2.2.2.2 = y.2.2.2.2 ∧ (mrM v y t).2.2.2.1 = y.2.2.2.1
  | 0, _ => ⟨c, h, hL, rfl, rfl⟩
  | t + 1, ht => by
    obtain ⟨c2, h1, hL1, ho, hr⟩ := mR_sim hok h hL t (by omega)
    rw [mR, mrM, SI_lf h1]
    by_cases hb : bt (lfM v (mrM v y t)) t = true
    · rw [if_pos hb, if_pos hb]
      have h2 := rt_sim hok (by omega) h1 hb
      refine ⟨_, h2, fun t2 ht2 hl => ?_, ho, hr⟩
      have hl2 := rt_left hok.1 (by omega) h1.1.2.2.2.1 h2.1.2.2.2.1 hl
      have hc := hL1 t2 ht2 hl2
      rw [updE]
      by_cases he : t2 = t
      · subst he
        rw [if_neg (Nat.lt_irrefl t2)] at hc
        rw [if_pos rfl, if_pos (by omega), hc]
      · rw [if_neg he, hc]
        by_cases hlt : t2 < t
        · rw [if_pos hlt, if_pos (by omega)]
        · rw [if_neg hlt, if_neg (by omega)]
    · rw [if_neg hb, if_neg hb]
      refine ⟨c2, h1, fun t2 ht2 hl => ?_, ho, hr⟩
      have hc := hL1 t2 ht2 hl
      rw [hc]
      by_cases he : t2 = t
      · subst he; exact absurd hl hb
      · by_cases hlt : t2 < t
        · rw [if_pos hlt, if_pos (by omega)]
        · rw [if_neg hlt, if_neg (by omega)]
def op0 (v : StT) : Int32 := v.1 &&& (S_or v.2.2.1 (S_mk v.2.2.2.2 1 v.2.1) v.2.1 ^^^ (-1))
theorem op0_free {v : StT} (hok : okS v) (hc : hasC v = true) {t : Nat} (ht : t < 32) (hb : bt (op0 v) t = true) : t < 18 ∧ ∃ k, k < v.2.1 ∧ v.2.2.2.2 k = 0 ∧ bt (v.2.2.1 k) t = true := by
  have h14 := hok.1
  unfold op0 at hb
  rw [b_and, b_not _ ht, Bool.and_eq_true] at hb
  have h18 : t < 18 := by
    by_cases h : t < 18
    · exact h
    · have := hok.2.1 t (by omega) ht
      rw [this] at hb
      exact absurd hb.1 (by decide)
  obtain ⟨k, hk, hnb, hkt⟩ := hasC_bit hc hb.1 ht
  refine ⟨h18, k, hk, ?_, hkt⟩
  rcases (bt_nb hok hk).mp hnb with h | h
  · exact h
  · exfalso
    have : bt (S_or v.2.2.1 (S_mk v.2.2.2.2 1 v.2.1) v.2.1) t = true := or_bit.mpr ⟨k, hk, by rw [bt_mk _ _ _ (by omega) k (by omega), h]; simp [hk], hkt⟩
    rw [this] at hb
    exact absurd hb.2 (by decide)
theorem rd_lt {v : StT} (hok : okS v) (hc : hasC v = true) {z : SHT} {y : MT} {c : Nat → Nat} {r : Nat} (h : SI v z y c) (hL : LC v y c r 0) (ho : y.2.2.2.2 = op0 v) (hl : ¬ lfM v y = 0) : r < 500 := by
  obtain ⟨t, ht, hb⟩ := n0_bit hl
  have hT : TY v y := h.1.2.2.2.1
  obtain ⟨h1, h2⟩ := (lf_bit ht hok.1 hT).mp hb
  rw [ho] at h1
  obtain ⟨h18, k, hk, hM, hkt⟩ := op0_free hok hc ht h1
  have hno : S_po y.2.1 k y.2.2.1 = none := by
    cases hq : S_po y.2.1 k y.2.2.1 with
    | none => rfl
    | some j =>
      obtain ⟨hj, hjk⟩ := S_po_lt hq
      have := h2 j hj
      rw [hjk, hkt] at this
      cases this
  obtain ⟨-, ⟨q, hq1, hq2, hq⟩, -⟩ := hok.2.2 k hk
  have hlt := h.1.2.2.2.2.2.2.2.2.2 k hk hM hno q hq hq2
  rw [if_neg (Nat.not_lt_zero k)] at hlt
  have hge := NF_ge (x := v.2.2.1 k &&& y.2.2.2.2) (c := c) 18 h18 (by rw [b_and, hkt, ho, h1]; rfl)
  have := hL t h18 hb
  rw [if_neg (Nat.not_lt_zero t)] at this
  omega
theorem rA_sim {v : StT} (hok : okS v) (hc : hasC v = true) : ∀ (f : Nat) (z : SHT) (y : MT) (c : Nat → Nat), SI v z y c → LC v y c y.2.2.2.1 0 → y.2.2.2.2 = op0 v → 500 ≤ f + y.2.2.2.1 → (∃ c2, SI v (rA v f z) (maM v f y) c2) ∧ lfM v (maM v f y) = 0
  | 0, z, y, c, h, hL, ho, hf => by
    refine ⟨⟨c, h⟩, ?_⟩
    show lfM v y = 0
    by_cases hl : lfM v y = 0
    · exact hl
    · have := rd_lt hok hc h hL ho hl
      omega
  | f + 1, z, y, c, h, hL, ho, hf => by
    rw [rA, maM, SI_lf h]
    by_cases hl : lfM v y = 0
    · rw [if_pos hl, if_pos hl]
      exact ⟨⟨c, h⟩, hl⟩
    · rw [if_neg hl, if_neg hl]
      have h2 : SI v (rdU z) (rdM y) c := ⟨h.1, h.2.1, by show z.2.2.1 + 1 = y.2.2.2.1 + 1; rw [h.2.2.1], h.2.2.2⟩
      have hL2 : LC v (rdM y) c y.2.2.2.1 0 := hL
      obtain ⟨c3, h3, hL3, ho3, hr3⟩ := mR_sim hok h2 hL2 18 (Nat.le_refl _)
      have hr : (mrM v (rdM y) 18).2.2.2.1 = y.2.2.2.1 + 1 := hr3
      refine rA_sim hok hc f _ _ c3 h3 (fun t ht hb => ?_) (ho3.trans ho) (by omega)
      rw [hL3 t ht hb, if_pos ht, if_neg (Nat.not_lt_zero t), hr]
theorem S_fillE (a : Int32) (f : Nat → Int32) (n j : Nat) : S_fill a f n j = if j < n then a else f j := rfl
theorem NF_0 (x : Int32) : ∀ n, NF x (fun _ => 0) n = 0
  | 0 => rfl
  | n + 1 => by rw [NF, NF_0 x n]; split <;> rfl
theorem bG_sim {v : StT} (hok : okS v) (z : SHT) {o : Nat → Nat} (ho : ∀ j, o j < 100) : SI v (bG v z) (m0M v o) (fun _ => 0) := by
  have h14 := hok.1
  refine ⟨⟨rfl, rfl, fun j hj => absurd hj (Nat.not_lt_zero j), ⟨Nat.zero_le 14, ho, fun j hj => absurd hj (Nat.not_lt_zero j), fun i j _ hj => absurd hj (Nat.not_lt_zero j)⟩, rfl, ?_, fun k hk hM => ?_, fun k hk hM => ?_, fun k hk => ?_, fun k hk hM hp q hq hq5 => ?_⟩, fun t ht => ⟨?_, rfl⟩, rfl, rfl⟩
  · show (0 : Int32) = S_or v.2.2.1 0 v.2.1
    have : ∀ n, S_or v.2.2.1 0 n = 0 := fun n => by
      induction n with
      | zero => rfl
      | succ n ih => rw [S_or, b_0, if_neg (by decide), ih]
    exact (this _).symm
  · rw [if_neg (Nat.not_lt_zero k), NF_0]
    show S_fill 0 z.2.2.2.2.2.2.2.1 14 k = _
    rw [S_fillE, if_pos (by omega)]
    rfl
  · show S_fill 0 z.2.2.2.2.2.2.2.1 14 k = _
    rw [S_fillE, if_pos (by omega)]
  · show S_fill (-6) z.2.2.2.2.2.2.2.2.1 14 k = _
    rw [S_fillE, if_pos (by omega)]
    rfl
  · rw [if_neg (Nat.not_lt_zero k), NF_0]
    obtain ⟨-, ⟨q2, hq1, hq2, hqq⟩, -⟩ := hok.2.2 k hk
    rw [hqq] at hq
    have := (nI_eq (a := q2) (b := q) (by omega) (by omega)).mp hq
    omega
  · show S_fill 0 z.2.2.2.2.2.2.1 18 t = _
    rw [S_fillE, if_pos ht]
    rfl
theorem R_sim {v : StT} (hok : okS v) (hc : hasC v = true) (z : SHT) {o : Nat → Nat} (ho : ∀ j, o j < 100) : (∃ c, SI v (rA v 500 (bG v z)) (RM v o) c) ∧ lfM v (RM v o) = 0 :=
  rA_sim hok hc 500 _ _ _ (bG_sim hok z ho) (fun t _ _ => by rw [if_neg (Nat.not_lt_zero t)]; rfl) rfl (by show 500 ≤ 500 + 0; omega)
theorem dR_sim {v : StT} {y : MT} : ∀ (p : Nat) (z : SHT) (d : Int32), z.1 = y.2.2.2.2 → z.2.2.2.1 = S_ts y.2.1 y.2.2.1 → (∀ j, j < p → z.2.2.2.2.2.2.2.2.2 j = y.2.1 j) → z.2.2.2.2.2.1 = d → dR v p z = dU z (drM v y p d)
  | 0, z, d, _, _, _, h4 => by subst h4; rfl
  | p + 1, z, d, h1, h2, h3, h4 => by
    have hw : dW z p = d ||| bI (y.2.1 p) := by unfold dW; rw [h4, h3 p (by omega)]
    rw [dR, drM, hw, h1, h2, wdM, and_assoc3]
    split
    · exact dR_sim p (dU z (d ||| bI (y.2.1 p))) _ h1 h2 (fun j hj => h3 j (by omega)) rfl
    · exact dR_sim p z d h1 h2 (fun j hj => h3 j (by omega)) h4
theorem aLL_sim {v : StT} (hok : okS v) (hc : hasC v = true) (z : SHT) {o : Nat → Nat} (ho : ∀ j, o j < 100) : ∃ c x, SI v x (RM v o) c ∧ aLL v z = dU x (DM v o) := by
  obtain ⟨⟨c, h⟩, -⟩ := R_sim hok hc z ho
  refine ⟨c, _, h, ?_⟩
  obtain ⟨⟨a1, a2, a3, a4, a5, a6, -⟩, -, -, hdr⟩ := h
  unfold aLL DM
  rw [a2]
  exact dR_sim _ _ 0 a1 a5 a3 hdr
theorem po_some {v : StT} {p : OT} (h : TI v p) {k : Nat} (hk : k < 32) (hv : v.2.1 ≤ 14) : bt (S_ts p.1 p.2) k = true ↔ 0 ≤ oN (S_po p.1 k p.2) := by
  rw [ts_bit hk _ (TI_32 hv h)]
  have h14 := h.1
  cases hq : S_po p.1 k p.2 with
  | none =>
    constructor
    · rintro ⟨j, hj, hjk⟩
      exact absurd hjk (S_po_n hq j hj)
    · intro h9
      exact absurd h9 (by decide)
  | some j =>
    obtain ⟨hj, hjk⟩ := S_po_lt hq
    constructor
    · intro _
      exact (nI_leI (a := 0) (b := j) (by decide) (by omega)).mpr (Nat.zero_le j)
    · intro _
      exact ⟨j, hj, hjk⟩
theorem S_rs_c {f g : Nat → Int32} : ∀ n, (∀ j, j < n → f j = g j) → S_rs f n = S_rs g n
  | 0, _ => rfl
  | n + 1, h => by rw [S_rs, S_rs, S_rs_c n (fun j hj => h j (by omega)), h n (by omega)]
theorem drM_18 {v : StT} {y : MT} (hT : TY v y) (hv : v.2.1 ≤ 14) : ∀ (p : Nat) (d : Int32), p ≤ y.2.2.1 → in18 d → in18 (drM v y p d)
  | 0, _, _, h => h
  | p + 1, d, hp, h => by
    rw [drM]
    split
    · exact drM_18 hT hv p _ (by omega) (in18_or h (in18_bI (by have := hT.2.2.1 p (by show p < y.2.2.1; omega); have h9 : y.2.1 p < v.2.1 := this; omega)))
    · exact drM_18 hT hv p d (by omega) h
theorem DM_18 {v : StT} {o : Nat → Nat} (hv : v.2.1 ≤ 14) (ho : ∀ j, o j < 100) : in18 (DM v o) := drM_18 (RM_TY hv ho) hv _ _ (Nat.le_refl _) in18_0
