/-! how many bits: by table -/
def fz (x : Nat) (k : Nat → Nat) : Nat := match x with
  | 0 => k 0
  | n + 1 => k (n + 1)
theorem fz_eq (x : Nat) (k : Nat → Nat) : fz x k = k x := by cases x <;> rfl
def n5 (x : Nat) : Nat := Nat.land (x + Nat.shiftRight x 16) 63
def n4 (x : Nat) : Nat := fz (x + Nat.shiftRight x 8) n5
def n3 (x : Nat) : Nat := fz (Nat.land (x + Nat.shiftRight x 4) 252645135) n4
def n2 (x : Nat) : Nat := fz (Nat.land x 858993459 + Nat.land (Nat.shiftRight x 2) 858993459) n3
def n1 (x : Nat) : Nat := fz (x - Nat.land (Nat.shiftRight x 1) 1431655765) n2
def chk (m : Nat) : Bool := Nat.beq (n1 (2 * m)) (n1 m) && Nat.beq (n1 (2 * m + 1)) (n1 m + 1)
def chkA (a : Nat) : Nat → Bool
  | 0 => true
  | b + 1 => chk (256 * a + b) && chkA a b
def chkB : Nat → Bool
  | 0 => true
  | a + 1 => chkA a 256 && chkB a
theorem chk_all : chkB 512 = true := by decide +kernel
