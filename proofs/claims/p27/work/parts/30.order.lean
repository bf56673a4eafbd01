/-! the shares: fillings by sums, the order of the tight sets -/
def S_ts (o : Nat → Nat) : Nat → Int32
  | 0 => 0
  | k + 1 => S_ts o k ||| bI (o k)
def S_po (o : Nat → Nat) (s : Nat) : Nat → Option Nat
  | 0 => none
  | k + 1 => if o k = s then some k else S_po o s k
def S_fl (x : Int32) (ra : Nat → Int32) : Nat → Int32
  | 0 => 0
  | t + 1 => if bt x t = true then S_fl x ra t + ra t else S_fl x ra t
theorem S_po_n {o : Nat → Nat} {s : Nat} : ∀ {n : Nat}, S_po o s n = none → ∀ j, j < n → ¬ o j = s
  | 0, _, j, hj => absurd hj (Nat.not_lt_zero j)
  | n + 1, h, j, hj => by
    rw [S_po] at h
    split at h
    · cases h
    · rename_i h2
      by_cases he : j = n
      · rw [he]; exact h2
      · exact S_po_n h j (by omega)
theorem S_po_lt {o : Nat → Nat} {s : Nat} : ∀ {n k : Nat}, S_po o s n = some k → k < n ∧ o k = s
  | 0, k, h => by cases h
  | n + 1, k, h => by
    rw [S_po] at h
    split at h
    · cases h
      exact ⟨Nat.lt_succ_self _, by assumption⟩
    · have := S_po_lt h
      exact ⟨by omega, this.2⟩
theorem oN_n {o : Option Nat} (h : ¬ 0 ≤ oN o) (hb : ∀ k, o = some k → k < 100) : o = none := by
  cases o with
  | none => rfl
  | some k => exact absurd ((nI_leI (a := 0) (b := k) (by decide) (by have := hb k rfl; omega)).mpr (Nat.zero_le k)) h
/-- different numbers below n: at most n -/
theorem pigeon : ∀ (n m : Nat) (f : Nat → Nat), (∀ j, j < m → f j < n) → (∀ i j, i < j → j < m → ¬ f i = f j) → m ≤ n
  | 0, 0, _, _, _ => Nat.le_refl 0
  | 0, m + 1, f, h, _ => absurd (h 0 (by omega)) (Nat.not_lt_zero _)
  | n + 1, 0, _, _, _ => Nat.zero_le _
  | n + 1, m + 1, f, h, hd => by
    have key := pigeon n m (fun j => if f j = n then f m else f j) (fun j hj => by
      split
      · rename_i hjn
        have h1 := h m (by omega)
        have h2 := hd j m hj (by omega)
        omega
      · have h1 := h j (by omega)
        omega) (fun i j hij hj => by
      have d1 := hd i j hij (by omega)
      have d2 := hd i m (by omega) (by omega)
      have d3 := hd j m hj (by omega)
      split <;> split <;> omega)
    omega
abbrev OT : Type := (Nat → Nat) × Nat
def TI (v : StT) (p : OT) : Prop := p.2 ≤ 14 ∧ (∀ j, p.1 j < 100) ∧ (∀ j, j < p.2 → p.1 j < v.2.1) ∧ (∀ i j, i < j → j < p.2 → ¬ p.1 i = p.1 j)
theorem TI_s {v : StT} {p : OT} {k : Nat} (hv : v.2.1 ≤ 14) (h : TI v p) (hk : k < v.2.1) (hp : S_po p.1 k p.2 = none) : p.2 < 14 ∧ TI v (updN p.1 p.2 k, p.2 + 1) := by
  obtain ⟨h1, h2, h3, h4⟩ := h
  have hn := S_po_n hp
  have e : ∀ j, updN p.1 p.2 k j = if j = p.2 then k else p.1 j := fun j => rfl
  have g3 : ∀ j, j < p.2 + 1 → updN p.1 p.2 k j < v.2.1 := fun j hj => by
    rw [e]
    split
    · exact hk
    · exact h3 j (by omega)
  have g4 : ∀ i j, i < j → j < p.2 + 1 → ¬ updN p.1 p.2 k i = updN p.1 p.2 k j := fun i j hij hj => by
    rw [e, e, if_neg (by omega)]
    split
    · exact hn i (by omega)
    · exact h4 i j hij (by omega)
  have g := pigeon v.2.1 (p.2 + 1) _ g3 g4
  refine ⟨by omega, by show p.2 + 1 ≤ 14; omega, fun j => ?_, g3, g4⟩
  show updN p.1 p.2 k j < 100
  rw [e]
  split
  · omega
  · exact h2 j
def tG (v : StT) (op : Int32) (ra : Nat → Int32) (p : OT) : Nat → OT
  | 0 => p
  | k + 1 => if v.2.2.2.2 k = 0 then (if 0 ≤ oN (S_po (tG v op ra p k).1 k (tG v op ra p k).2) then tG v op ra p k else if S_fl (v.2.2.1 k &&& op) ra 18 = v.2.2.2.1 k then (updN (tG v op ra p k).1 (tG v op ra p k).2 k, (tG v op ra p k).2 + 1) else tG v op ra p k) else tG v op ra p k
theorem S_po_100 {o : Nat → Nat} {s n : Nat} (hn : n ≤ 14) : ∀ k, S_po o s n = some k → k < 100 := fun k h => by
  have := (S_po_lt h).1
  omega
theorem tG_TI {v : StT} {op : Int32} {ra : Nat → Int32} {p : OT} (hv : v.2.1 ≤ 14) (h : TI v p) : ∀ k, k ≤ v.2.1 → TI v (tG v op ra p k)
  | 0, _ => h
  | k + 1, hk => by
    have h1 := tG_TI (op := op) (ra := ra) hv h k (by omega)
    rw [tG]
    split
    · split
      · exact h1
      · rename_i hp
        split
        · exact (TI_s hv h1 (by omega) (oN_n hp (S_po_100 h1.1))).2
        · exact h1
    · exact h1
abbrev MT : Type := (Nat → Int32) × (Nat → Nat) × Nat × Nat × Int32
def lfM (v : StT) (y : MT) : Int32 := y.2.2.2.2 &&& (S_or v.2.2.1 (S_ts y.2.1 y.2.2.1) v.2.1 ^^^ (-1))
def rtM (v : StT) (y : MT) (t : Nat) : MT := (upd y.1 t (y.1 t + 1), (tG v y.2.2.2.2 (upd y.1 t (y.1 t + 1)) (y.2.1, y.2.2.1) v.2.1).1, (tG v y.2.2.2.2 (upd y.1 t (y.1 t + 1)) (y.2.1, y.2.2.1) v.2.1).2, y.2.2.2.1, y.2.2.2.2)
def mrM (v : StT) (y : MT) : Nat → MT
  | 0 => y
  | t + 1 => if bt (lfM v (mrM v y t)) t = true then rtM v (mrM v y t) t else mrM v y t
def rdM (y : MT) : MT := (y.1, y.2.1, y.2.2.1, y.2.2.2.1 + 1, y.2.2.2.2)
def maM (v : StT) : Nat → MT → MT
  | 0, y => y
  | f + 1, y => if lfM v y = 0 then y else maM v f (mrM v (rdM y) 18)
def m0M (v : StT) (o : Nat → Nat) : MT := (fun _ => 0, o, 0, 0, v.1 &&& (S_or v.2.2.1 (S_mk v.2.2.2.2 1 v.2.1) v.2.1 ^^^ (-1)))
def RM (v : StT) (o : Nat → Nat) : MT := maM v 500 (m0M v o)
def TY (v : StT) (y : MT) : Prop := TI v (y.2.1, y.2.2.1)
theorem mrM_TY {v : StT} {y : MT} (hv : v.2.1 ≤ 14) (h : TY v y) : ∀ t, TY v (mrM v y t)
  | 0 => h
  | t + 1 => by
    have h1 := mrM_TY hv h t
    rw [mrM]
    split
    · exact tG_TI hv h1 v.2.1 (Nat.le_refl _)
    · exact h1
theorem maM_go {v : StT} {y : MT} {i : Nat} {o : Nat → Nat} (hi : i ≤ 500) (hR : maM v (500 - i) y = RM v o) (hf : lfM v (RM v o) = 0) (h : ¬ lfM v y = 0) : i < 500 ∧ maM v (500 - (i + 1)) (mrM v (rdM y) 18) = RM v o := by
  have h5 : i < 500 := by
    by_cases h9 : i = 500
    · subst h9
      rw [← hR] at hf
      exact absurd hf h
    · omega
  refine ⟨h5, ?_⟩
  rw [show 500 - i = (500 - (i + 1)) + 1 by omega, maM, if_neg h] at hR
  exact hR
theorem maM_end {v : StT} {y : MT} (h : lfM v y = 0) : ∀ f, maM v f y = y
  | 0 => rfl
  | f + 1 => by rw [maM, if_pos h]
def wdM (v : StT) (y : MT) (d : Int32) (p : Nat) : Int32 := (S_ts y.2.1 y.2.2.1 &&& (d ^^^ (-1))) &&& (bI (y.2.1 p) ^^^ (-1))
def drM (v : StT) (y : MT) : Nat → Int32 → Int32
  | 0, d => d
  | p + 1, d => if y.2.2.2.2 &&& (S_or v.2.2.1 (wdM v y d p) v.2.1 ^^^ (-1)) = 0 then drM v y p (d ||| bI (y.2.1 p)) else drM v y p d
theorem drM_s {v : StT} {y : MT} {a : Nat} (h : 0 < a) (d : Int32) : drM v y a d = if y.2.2.2.2 &&& (S_or v.2.2.1 (wdM v y d (a - 1)) v.2.1 ^^^ (-1)) = 0 then drM v y (a - 1) (d ||| bI (y.2.1 (a - 1))) else drM v y (a - 1) d := by
  obtain ⟨b, rfl⟩ : ∃ b, a = b + 1 := ⟨a - 1, by omega⟩
  rfl
def DM (v : StT) (o : Nat → Nat) : Int32 := drM v (RM v o) (RM v o).2.2.1 0
theorem maM_TY {v : StT} (hv : v.2.1 ≤ 14) : ∀ (f : Nat) (y : MT), TY v y → TY v (maM v f y)
  | 0, _, h => h
  | f + 1, y, h => by
    rw [maM]
    split
    · exact h
    · exact maM_TY hv f _ (mrM_TY (y := rdM y) hv h 18)
theorem RM_TY {v : StT} {o : Nat → Nat} (hv : v.2.1 ≤ 14) (ho : ∀ j, o j < 100) : TY v (RM v o) := maM_TY hv 500 _ ⟨Nat.zero_le 14, ho, fun j hj => absurd hj (Nat.not_lt_zero j), fun i j _ hj => absurd hj (Nat.not_lt_zero j)⟩
def NF (x : Int32) (c : Nat → Nat) : Nat → Nat
  | 0 => 0
  | t + 1 => NF x c t + (if bt x t = true then c t else 0)
theorem S_fl_NF {x : Int32} {ra : Nat → Int32} {c : Nat → Nat} : ∀ n, (∀ t, t < n → ra t = nI (c t)) → S_fl x ra n = nI (NF x c n)
  | 0, _ => rfl
  | n + 1, h => by
    have ih := S_fl_NF (x := x) (ra := ra) (c := c) n (fun t ht => h t (by omega))
    rw [S_fl, NF, ih, h n (by omega)]
    split
    · exact nI_add _ _
    · rfl
theorem NF_up {x : Int32} {c : Nat → Nat} {t : Nat} : ∀ n, NF x (updN c t (c t + 1)) n = NF x c n + (if t < n ∧ bt x t = true then 1 else 0)
  | 0 => by rw [NF, NF, if_neg (by omega)]
  | n + 1 => by
    rw [NF, NF, NF_up n]
    show _ + (if bt x n = true then (if n = t then c t + 1 else c n) else 0) = _
    by_cases he : n = t
    · subst he
      rw [if_neg (by omega), if_pos rfl]
      by_cases hb : bt x n = true
      · rw [if_pos hb, if_pos hb, if_pos ⟨by omega, hb⟩]; omega
      · rw [if_neg hb, if_neg hb, if_neg (fun q => hb q.2)]
    · rw [if_neg he]
      have e : (t < n + 1 ∧ bt x t = true) ↔ (t < n ∧ bt x t = true) := by
        constructor
        · rintro ⟨h1, h2⟩; exact ⟨by omega, h2⟩
        · rintro ⟨h1, h2⟩; exact ⟨by omega, h2⟩
      by_cases hq : t < n ∧ bt x t = true
      · rw [if_pos hq, if_pos (e.mpr hq)]
        omega
      · rw [if_neg hq, if_neg (fun q => hq (e.mp q))]
        omega
theorem NF_ge {x : Int32} {c : Nat → Nat} {t : Nat} : ∀ n, t < n → bt x t = true → c t ≤ NF x c n
  | 0, h, _ => absurd h (Nat.not_lt_zero t)
  | n + 1, h, hb => by
    rw [NF]
    by_cases he : t = n
    · subst he
      rw [if_pos hb]; omega
    · have := NF_ge (c := c) n (by omega) hb
      omega
theorem ts_cong {o p : Nat → Nat} : ∀ n, (∀ j, j < n → o j = p j) → S_ts o n = S_ts p n
  | 0, _ => rfl
  | n + 1, h => by rw [S_ts, S_ts, ts_cong n (fun j hj => h j (by omega)), h n (by omega)]
theorem po_cong {o p : Nat → Nat} {s : Nat} : ∀ n, (∀ j, j < n → o j = p j) → S_po o s n = S_po p s n
  | 0, _ => rfl
  | n + 1, h => by rw [S_po, S_po, po_cong n (fun j hj => h j (by omega)), h n (by omega)]
theorem updE (f : Nat → Nat) (k w j : Nat) : updN f k w j = if j = k then w else f j := rfl
theorem ts_app (o : Nat → Nat) (n k : Nat) : S_ts (updN o n k) (n + 1) = S_ts o n ||| bI k := by
  rw [S_ts, updE, if_pos rfl, ts_cong n (fun j hj => by rw [updE, if_neg (by omega)])]
theorem po_app (o : Nat → Nat) (n k s : Nat) : S_po (updN o n k) s (n + 1) = if k = s then some n else S_po o s n := by
  rw [S_po, updE, if_pos rfl, po_cong n (fun j hj => by rw [updE, if_neg (by omega)])]
theorem ts_bit {o : Nat → Nat} {i : Nat} (hi : i < 32) : ∀ n, (∀ j, j < n → o j < 32) → (bt (S_ts o n) i = true ↔ ∃ j, j < n ∧ o j = i)
  | 0, _ => by
    rw [S_ts, b_0]
    constructor
    · intro h; cases h
    · rintro ⟨j, hj, -⟩; omega
  | n + 1, h => by
    have ih := ts_bit hi n (fun j hj => h j (by omega))
    rw [S_ts, b_or, Bool.or_eq_true, ih, bt_bI (h n (by omega)) hi, decide_eq_true_eq]
    constructor
    · rintro (⟨j, hj, h1⟩ | h1)
      · exact ⟨j, by omega, h1⟩
      · exact ⟨n, by omega, h1.symm⟩
    · rintro ⟨j, hj, h1⟩
      by_cases he : j = n
      · subst he; exact Or.inr h1.symm
      · exact Or.inl ⟨j, by omega, h1⟩
/-- what class (z) and reference (op, order p) have in common while thing t is raised: the sets below i are at c2, the others at c -/
def SJ (v : StT) (z : SHT) (op : Int32) (p : OT) (c c2 : Nat → Nat) (i : Nat) : Prop :=
  z.1 = op ∧ z.2.2.2.2.1 = p.2 ∧ (∀ j, j < p.2 → z.2.2.2.2.2.2.2.2.2 j = p.1 j) ∧ TI v p ∧ z.2.2.2.1 = S_ts p.1 p.2 ∧ z.2.1 = S_or v.2.2.1 z.2.2.2.1 v.2.1 ∧
  (∀ k, k < v.2.1 → v.2.2.2.2 k = 0 → z.2.2.2.2.2.2.2.1 k = nI (NF (v.2.2.1 k &&& op) (if k < i then c2 else c) 18)) ∧
  (∀ k, k < v.2.1 → ¬ v.2.2.2.2 k = 0 → z.2.2.2.2.2.2.2.1 k = 0) ∧
  (∀ k, k < v.2.1 → z.2.2.2.2.2.2.2.2.1 k = oN (S_po p.1 k p.2)) ∧
  (∀ k, k < v.2.1 → v.2.2.2.2 k = 0 → S_po p.1 k p.2 = none → ∀ q : Nat, v.2.2.2.1 k = nI q → q ≤ 500 → NF (v.2.2.1 k &&& op) (if k < i then c2 else c) 18 < q)
theorem SJ_mono {v : StT} {z : SHT} {op : Int32} {p : OT} {c c2 : Nat → Nat} {i : Nat} (h : SJ v z op p c c2 i) (hs : v.2.2.2.2 i = 0 → NF (v.2.2.1 i &&& op) c2 18 = NF (v.2.2.1 i &&& op) c 18) : SJ v z op p c c2 (i + 1) := by
  obtain ⟨a1, a2, a3, a4, a5, a6, a7, a8, a9, a10⟩ := h
  have e : ∀ k, v.2.2.2.2 k = 0 → NF (v.2.2.1 k &&& op) (if k < i + 1 then c2 else c) 18 = NF (v.2.2.1 k &&& op) (if k < i then c2 else c) 18 := fun k hM => by
    by_cases hk : k < i
    · rw [if_pos hk, if_pos (by omega)]
    · by_cases he : k = i
      · subst he
        rw [if_pos (by omega), if_neg hk, hs hM]
      · rw [if_neg hk, if_neg (by omega)]
  exact ⟨a1, a2, a3, a4, a5, a6, fun k hk hM => by rw [e k hM]; exact a7 k hk hM, a8, a9, fun k hk hM hp q hq hq5 => by rw [e k hM]; exact a10 k hk hM hp q hq hq5⟩
theorem SJ_step {v : StT} (hok : okS v) {op : Int32} {ra : Nat → Int32} {c : Nat → Nat} {t : Nat} (ht : t < 18) (hop : bt op t = true) (hra : ∀ t2, t2 < 18 → ra t2 = nI (updN c t (c t + 1) t2)) {p : OT} {z : SHT} (hnt : ∀ j, j < p.2 → bt (v.2.2.1 (p.1 j)) t = false)
    : ∀ i, i ≤ v.2.1 → SJ v z op p c (updN c t (c t + 1)) 0 → SJ v (fS v t i z) op (tG v op ra p i) c (updN c t (c t + 1)) i ∧ (∀ j, j < (tG v op ra p i).2 → bt (v.2.2.1 ((tG v op ra p i).1 j)) t = false ∨ (tG v op ra p i).1 j < i) ∧ (fS v t i z).2.2.2.2.2.2.1 = z.2.2.2.2.2.2.1 ∧ (fS v t i z).2.2.1 = z.2.2.1 ∧ (fS v t i z).2.2.2.2.2.1 = z.2.2.2.2.2.1
  | 0, _, h => ⟨h, fun j hj => Or.inl (hnt j hj), rfl, rfl, rfl⟩
  | i + 1, hi, h0 => by
    have h14 := hok.1
    obtain ⟨h, hb, g1, g2, g3⟩ := SJ_step hok ht hop hra hnt i (by omega) h0
    generalize hz : fS v t i z = y at h g1 g2 g3
    generalize hp : tG v op ra p i = q at h hb
    obtain ⟨hx18, ⟨pr, hpr1, hpr2, hpr⟩, hmk⟩ := hok.2.2 i (by omega)
    rw [fS, tG, hz, hp]
    have hup := NF_up (x := v.2.2.1 i &&& op) (c := c) (t := t) 18
    have hfl := S_fl_NF (x := v.2.2.1 i &&& op) (ra := ra) (c := updN c t (c t + 1)) 18 hra
    by_cases hM : v.2.2.2.2 i = 0
    · rw [if_pos hM, if_pos hM]
      by_cases hT : bt (v.2.2.1 i) t = true
      · rw [if_pos hT]
        have hno : S_po q.1 i q.2 = none := by
          cases hq : S_po q.1 i q.2 with
          | none => rfl
          | some j =>
            obtain ⟨hj, hji⟩ := S_po_lt hq
            rcases hb j hj with h9 | h9
            · rw [hji, hT] at h9; cases h9
            · omega
        have hn0 : ¬ (0 : Int32) ≤ oN (S_po q.1 i q.2) := by rw [hno]; decide
        rw [if_neg hn0, hfl]
        have hbt : t < 18 ∧ bt (v.2.2.1 i &&& op) t = true := ⟨ht, by rw [b_and, hT, hop]; rfl⟩
        rw [if_pos hbt] at hup
        obtain ⟨a1, a2, a3, a4, a5, a6, a7, a8, a9, a10⟩ := h
        have hlt := a10 i (by omega) hM hno pr hpr hpr2
        rw [if_neg (Nat.lt_irrefl i)] at hlt
        have hfi := a7 i (by omega) hM
        rw [if_neg (Nat.lt_irrefl i)] at hfi
        have efi : y.2.2.2.2.2.2.2.1 i + 1 = nI (NF (v.2.2.1 i &&& op) (updN c t (c t + 1)) 18) := by
          rw [hfi, hup]
          exact nI_add _ 1
        rw [efi, hpr]
        have e : ∀ k, ¬ k = i → (if k < i + 1 then updN c t (c t + 1) else c) = (if k < i then updN c t (c t + 1) else c) := fun k hk => by
          by_cases hki : k < i
          · rw [if_pos hki, if_pos (by omega)]
          · rw [if_neg hki, if_neg (by omega)]
        have fE : ∀ k, (fU y i).2.2.2.2.2.2.2.1 k = if k = i then nI (NF (v.2.2.1 i &&& op) (updN c t (c t + 1)) 18) else y.2.2.2.2.2.2.2.1 k := fun k => by
          show upd y.2.2.2.2.2.2.2.1 i (y.2.2.2.2.2.2.2.1 i + 1) k = _
          rw [upE, efi]
        have b7 : ∀ k, k < v.2.1 → v.2.2.2.2 k = 0 → (fU y i).2.2.2.2.2.2.2.1 k = nI (NF (v.2.2.1 k &&& op) (if k < i + 1 then updN c t (c t + 1) else c) 18) := fun k hk hMk => by
          rw [fE]
          by_cases he : k = i
          · subst he
            rw [if_pos rfl, if_pos (by omega)]
          · rw [if_neg he, e k he]
            exact a7 k hk hMk
        have b8 : ∀ k, k < v.2.1 → ¬ v.2.2.2.2 k = 0 → (fU y i).2.2.2.2.2.2.2.1 k = 0 := fun k hk hMk => by
          rw [fE, if_neg (fun he => hMk (by rw [he]; exact hM))]
          exact a8 k hk hMk
        by_cases heq : nI (NF (v.2.2.1 i &&& op) (updN c t (c t + 1)) 18) = nI pr
        · rw [if_pos heq, if_pos heq]
          obtain ⟨t1, t2⟩ := TI_s h14 a4 (show i < v.2.1 by omega) hno
          have htc : (fU y i).2.2.2.2.1 < 14 := by show y.2.2.2.2.1 < 14; rw [a2]; exact t1
          unfold bT
          rw [if_pos htc]
          refine ⟨⟨a1, ?_, ?_, t2, ?_, ?_, b7, b8, ?_, ?_⟩, ?_, g1, g2, g3⟩
          · show y.2.2.2.2.1 + 1 = q.2 + 1
            rw [a2]
          · intro j hj
            have hj : j < q.2 + 1 := hj
            show updN y.2.2.2.2.2.2.2.2.2 y.2.2.2.2.1 i j = updN q.1 q.2 i j
            rw [updE, updE, a2]
            by_cases hj2 : j = q.2
            · rw [if_pos hj2, if_pos hj2]
            · rw [if_neg hj2, if_neg hj2]
              exact a3 j (by omega)
          · show y.2.2.2.1 ||| bI i = S_ts (updN q.1 q.2 i) (q.2 + 1)
            rw [ts_app, a5]
          · show y.2.1 ||| v.2.2.1 i = S_or v.2.2.1 (y.2.2.2.1 ||| bI i) v.2.1
            rw [or_bI (by omega) (by omega), a6]
          · intro k hk
            show upd y.2.2.2.2.2.2.2.2.1 i (nI y.2.2.2.2.1) k = oN (S_po (updN q.1 q.2 i) k (q.2 + 1))
            rw [upE, po_app, a2]
            by_cases hki : k = i
            · rw [if_pos hki, if_pos hki.symm]; rfl
            · rw [if_neg hki, if_neg (fun q => hki q.symm)]
              exact a9 k hk
          · intro k hk hMk hpo
            have hpo : S_po (updN q.1 q.2 i) k (q.2 + 1) = none := hpo
            rw [po_app] at hpo
            by_cases hki : k = i
            · rw [if_pos hki.symm] at hpo; cases hpo
            · rw [if_neg (fun q => hki q.symm)] at hpo
              rw [e k hki]
              exact a10 k hk hMk hpo
          · intro j hj
            have hj : j < q.2 + 1 := hj
            show bt (v.2.2.1 (updN q.1 q.2 i j)) t = false ∨ updN q.1 q.2 i j < i + 1
            rw [updE]
            by_cases hj2 : j = q.2
            · rw [if_pos hj2]; exact Or.inr (by omega)
            · rw [if_neg hj2]
              rcases hb j (by omega) with h9 | h9
              · exact Or.inl h9
              · exact Or.inr (by omega)
        · rw [if_neg heq, if_neg heq]
          refine ⟨⟨a1, a2, a3, a4, a5, a6, b7, b8, a9, ?_⟩, ?_, g1, g2, g3⟩
          · intro k hk hMk hpo pq hpq hpq5
            by_cases hki : k = i
            · subst hki
              rw [if_pos (by omega)]
              have e2 : pq = pr := by
                rw [hpr] at hpq
                exact ((nI_eq (a := pr) (b := pq) (by omega) (by omega)).mp hpq).symm
              subst e2
              have : ¬ NF (v.2.2.1 k &&& op) (updN c t (c t + 1)) 18 = pq := fun q9 => heq (by rw [q9])
              omega
            · rw [e k hki]
              exact a10 k hk hMk hpo pq hpq hpq5
          · intro j hj
            rcases hb j hj with h9 | h9
            · exact Or.inl h9
            · exact Or.inr (by omega)
      · rw [if_neg hT]
        have hbt : ¬ (t < 18 ∧ bt (v.2.2.1 i &&& op) t = true) := fun q9 => hT (by have := q9.2; rw [b_and, Bool.and_eq_true] at this; exact this.1)
        rw [if_neg hbt, Nat.add_zero] at hup
        have hsame : (if (0 : Int32) ≤ oN (S_po q.1 i q.2) then q else if S_fl (v.2.2.1 i &&& op) ra 18 = v.2.2.2.1 i then (updN q.1 q.2 i, q.2 + 1) else q) = q := by
          by_cases hq : (0 : Int32) ≤ oN (S_po q.1 i q.2)
          · rw [if_pos hq]
          · rw [if_neg hq]
            have hno := oN_n hq (S_po_100 h.2.2.2.1.1)
            have hlt := h.2.2.2.2.2.2.2.2.2 i (by omega) hM hno pr hpr hpr2
            rw [if_neg (Nat.lt_irrefl i)] at hlt
            rw [if_neg]
            rw [hfl, hup, hpr]
            intro q9
            have := (nI_eq (a := NF (v.2.2.1 i &&& op) c 18) (b := pr) (by omega) (by omega)).mp q9
            omega
        rw [hsame]
        refine ⟨SJ_mono h (fun _ => hup), fun j hj => ?_, g1, g2, g3⟩
        rcases hb j hj with h9 | h9
        · exact Or.inl h9
        · exact Or.inr (by omega)
    · rw [if_neg hM, if_neg hM]
      refine ⟨SJ_mono h (fun h9 => absurd h9 hM), fun j hj => ?_, g1, g2, g3⟩
      rcases hb j hj with h9 | h9
      · exact Or.inl h9
      · exact Or.inr (by omega)
