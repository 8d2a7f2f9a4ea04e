/-! nets: the trees as numbers -/
def co (n t k : Nat) : Nat := t / n ^ k % n
def dgt (P v : Nat) : Nat := P / 8 ^ v % 8
def P0 (n t : Nat) : Nat → Nat
  | 0 => 37449
  | k + 1 => P0 n t k + 8 ^ co n t k
def lfA (P : Nat) : Nat → Nat → Nat
  | 0, k => k
  | c + 1, k => if dgt P k = 1 then k else lfA P c (k + 1)
def PZ (n t : Nat) : Nat → Nat
  | 0 => P0 n t (n - 2)
  | i + 1 => PZ n t i - 8 ^ lfA (PZ n t i) n 0 - 8 ^ co n t i
def lea (n t i : Nat) : Nat := lfA (PZ n t i) n 0
def par (n t i : Nat) : Nat := if i < n - 2 then co n t i else lfA (PZ n t (n - 2)) (n - 1 - lea n t (n - 2)) (lea n t (n - 2) + 1)
def TH (n t : Nat) : Nat → Nat
  | 0 => 2 ^ par n t (n - 2)
  | j + 1 => TH n t j + 2 ^ lea n t (n - 2 - j)
/-- all that a tree must keep -/
def ckT (n t : Nat) : Bool :=
  ((List.range (n - 1)).all fun i => decide (lea n t i < n) && decide (dgt (PZ n t i) (lea n t i) = 1) && decide (par n t i < n)) &&
  ((List.range (n - 2)).all fun i => decide (par n t i ≠ lea n t i) && decide (1 ≤ dgt (PZ n t i) (par n t i))) &&
  (decide (lea n t (n - 2) < par n t (n - 2)) && decide (dgt (PZ n t (n - 2)) (par n t (n - 2)) = 1)) &&
  ((List.range (n - 1)).all fun j => decide (TH n t j < 64) && (TH n t j).testBit (par n t (n - 2 - j)) && !((TH n t j).testBit (lea n t (n - 2 - j))))
def ckN (n : Nat) : Bool := (List.range (n ^ (n - 2))).all (ckT n)
theorem ck2 : ckN 2 = true := by decide +kernel
theorem ck3 : ckN 3 = true := by decide +kernel
theorem ck4 : ckN 4 = true := by decide +kernel
theorem ck5 : ckN 5 = true := by decide +kernel
theorem ck6 : ckN 6 = true := by decide +kernel
