/-! losses: bits, and their number -/
theorem nI_and (a b : Nat) : nI a &&& nI b = nI (a &&& b) := by
  apply Int32.toBitVec_inj.1
  show BitVec.ofNat 32 a &&& BitVec.ofNat 32 b = BitVec.ofNat 32 (a &&& b)
  apply BitVec.eq_of_getLsbD_eq
  intro i hi
  simp [hi]
theorem nI_or (a b : Nat) : nI a ||| nI b = nI (a ||| b) := by
  apply Int32.toBitVec_inj.1
  show BitVec.ofNat 32 a ||| BitVec.ofNat 32 b = BitVec.ofNat 32 (a ||| b)
  apply BitVec.eq_of_getLsbD_eq
  intro i hi
  simp [hi]
theorem lN_and (a b : Nat) : lN a &&& lN b = lN (a &&& b) := by
  apply Int64.toBitVec_inj.1
  show BitVec.ofNat 64 a &&& BitVec.ofNat 64 b = BitVec.ofNat 64 (a &&& b)
  apply BitVec.eq_of_getLsbD_eq
  intro i hi
  simp [hi]
theorem l_c : ∀ k, k < 64 → ((nI k).toInt64 &&& 63) = lN k ∧ ((lN k).toBitVec.smod 64).toNat = k := by decide +kernel
theorem l_shr {a k : Nat} (hk : k < 64) (h : a < 2 ^ 62) : lN a >>> ((nI k).toInt64 &&& 63) = lN (a / 2 ^ k) := by
  have hd : a / 2 ^ k ≤ a := Nat.div_le_self _ _
  rw [(l_c k hk).1]
  apply Int64.toInt_inj.mp
  have e : (lN a >>> lN k).toInt = (lN a).toInt >>> k := by
    have h2 := (l_c k hk).2
    have : (lN a >>> lN k).toInt = (lN a).toInt >>> ((lN k).toBitVec.smod 64).toNat := BitVec.toInt_sshiftRight ..
    rw [this, h2]
  rw [e, Int.shiftRight_eq_div_pow, pk_lT (by omega), pk_lT (by omega)]
  rfl
theorem l_bit {N p : Nat} (hN : N < 2 ^ 62) (hp : p < 64) : ((lN N >>> ((nI p).toInt64 &&& 63)) &&& 1) = if N.testBit p = true then 1 else 0 := by
  rw [l_shr hp hN, show (1 : Int64) = lN 1 from rfl, lN_and, show N / 2 ^ p &&& 1 = N / 2 ^ p % 2 from Nat.and_two_pow_sub_one_eq_mod _ 1, Nat.testBit_eq_decide_div_mod_eq]
  have : N / 2 ^ p % 2 < 2 := Nat.mod_lt _ (by decide)
  by_cases h : N / 2 ^ p % 2 = 1
  · rw [h]; rfl
  · rw [show N / 2 ^ p % 2 = 0 by omega]; rfl
/-- the count of bits, as the library does it -/
def bcN (x : Nat) : Nat :=
  let a := x - ((x / 2) &&& 1431655765)
  let b := (a &&& 858993459) + ((a / 4) &&& 858993459)
  let c := (b + b / 16) &&& 252645135
  let d := c + c / 256
  (d + d / 65536) &&& 63
theorem bcN_ok (S : St) {x : Nat} (hx : x < 2 ^ 31) : J6_bitCount_0f7a4 S (nI x) = some (nI (bcN x)) ∧ bcN x ≤ 63 := by
  refine ⟨?_, Nat.and_le_right⟩
  unfold J6_bitCount_0f7a4
  have e1 : ((nI x).toUInt32 >>> ((1 : Int32).toUInt32 &&& Int32.toUInt32 31)).toInt32 = nI (x / 2) := pk_ushrN (by omega) 1 1 (by decide)
  have m1 : x / 2 &&& 1431655765 ≤ x / 2 := Nat.and_le_left
  have e2 : nI x - (nI (x / 2) &&& 1431655765) = nI (x - ((x / 2) &&& 1431655765)) := by
    rw [show (1431655765 : Int32) = nI 1431655765 from rfl, nI_and, pk_sub (by omega)]
  rw [e1, e2]
  obtain ⟨a, ha⟩ : ∃ a, a = x - ((x / 2) &&& 1431655765) := ⟨_, rfl⟩
  have e3 : ((nI a).toUInt32 >>> ((2 : Int32).toUInt32 &&& Int32.toUInt32 31)).toInt32 = nI (a / 4) := pk_ushrN (by omega) 2 2 (by decide)
  have e4 : (nI a &&& 858993459) + (nI (a / 4) &&& 858993459) = nI ((a &&& 858993459) + ((a / 4) &&& 858993459)) := by
    rw [show (858993459 : Int32) = nI 858993459 from rfl, nI_and, nI_and, nI_add]
  rw [← ha, e3, e4]
  obtain ⟨b, hb⟩ : ∃ b, b = (a &&& 858993459) + ((a / 4) &&& 858993459) := ⟨_, rfl⟩
  have b1 : a &&& 858993459 ≤ 858993459 := Nat.and_le_right
  have b2 : a / 4 &&& 858993459 ≤ 858993459 := Nat.and_le_right
  have e5 : ((nI b).toUInt32 >>> ((4 : Int32).toUInt32 &&& Int32.toUInt32 31)).toInt32 = nI (b / 16) := pk_ushrN (by omega) 4 4 (by decide)
  have e6 : (nI b + nI (b / 16)) &&& 252645135 = nI ((b + b / 16) &&& 252645135) := by
    rw [show (252645135 : Int32) = nI 252645135 from rfl, nI_add, nI_and]
  rw [← hb, e5, e6]
  obtain ⟨c, hc⟩ : ∃ c, c = (b + b / 16) &&& 252645135 := ⟨_, rfl⟩
  have c1 : (b + b / 16) &&& 252645135 ≤ 252645135 := Nat.and_le_right
  have e7 : ((nI c).toUInt32 >>> ((8 : Int32).toUInt32 &&& Int32.toUInt32 31)).toInt32 = nI (c / 256) := pk_ushrN (by omega) 8 8 (by decide)
  rw [← hc, e7, nI_add]
  obtain ⟨d, hd⟩ : ∃ d, d = c + c / 256 := ⟨_, rfl⟩
  have e8 : ((nI d).toUInt32 >>> ((16 : Int32).toUInt32 &&& Int32.toUInt32 31)).toInt32 = nI (d / 65536) := pk_ushrN (by omega) 16 16 (by decide)
  rw [← hd, e8, nI_add, show (63 : Int32) = nI 63 from rfl, nI_and]
  unfold bcN
  rw [hd, hc, hb, ha]
/-- how many of the first n -/
def cb (p : Nat → Bool) : Nat → Nat
  | 0 => 0
  | n + 1 => cb p n + if p n then 1 else 0
theorem cb_le (p : Nat → Bool) : ∀ n, cb p n ≤ n
  | 0 => Nat.le_refl 0
  | n + 1 => by
    have := cb_le p n
    show cb p n + (if p n then 1 else 0) ≤ n + 1
    split <;> omega
theorem cb_cong {p q : Nat → Bool} : ∀ n, (∀ k, k < n → p k = q k) → cb p n = cb q n
  | 0, _ => rfl
  | n + 1, h => by
    show cb p n + (if p n then 1 else 0) = cb q n + (if q n then 1 else 0)
    rw [cb_cong n (fun k hk => h k (by omega)), h n (by omega)]
theorem mask_0 {p : Nat → Bool} : ∀ n, cb p n = 0 → mask p n = 0
  | 0, _ => rfl
  | n + 1, h => by
    have h : cb p n + (if p n then 1 else 0) = 0 := h
    show mask p n + (if p n then 2 ^ n else 0) = 0
    have h1 : cb p n = 0 := by omega
    have h2 : (if p n then 1 else 0) = 0 := by omega
    rw [mask_0 n h1]
    by_cases hp : p n = true
    · rw [if_pos hp] at h2; cases h2
    · rw [if_neg hp]
/-- the width of a group -/
def wid (g q : Nat) : Nat := min 24 (q * g + g) - q * g
def bcT (g q : Nat) : Bool := (List.range (2 ^ wid g q)).all (fun y => decide (bcN (2 ^ (q * g) * y) ≤ 1) == decide (cb y.testBit (wid g q) ≤ 1))
theorem bcT_ok : (List.range 13).all (fun g => (List.range 24).all (fun q => decide (g = 0) || decide (24 ≤ q * g) || bcT g q)) = true := by decide +kernel
theorem bcG {g q y : Nat} (h1 : 1 ≤ g) (h2 : g ≤ 12) (hq : q * g < 24) (hy : y < 2 ^ wid g q) : bcN (2 ^ (q * g) * y) ≤ 1 ↔ cb y.testBit (wid g q) ≤ 1 := by
  have hq2 : q < 24 := by
    have : q * 1 ≤ q * g := Nat.mul_le_mul_left q h1
    omega
  have h := List.all_eq_true.mp (List.all_eq_true.mp bcT_ok g (List.mem_range.mpr (by omega))) q (List.mem_range.mpr hq2)
  simp only [Bool.or_eq_true, decide_eq_true_eq] at h
  have h := List.all_eq_true.mp (h.resolve_left (by omega)) y (List.mem_range.mpr hy)
  have h : decide (bcN (2 ^ (q * g) * y) ≤ 1) = decide (cb y.testBit (wid g q) ≤ 1) := by simpa using h
  constructor
  · intro z
    exact of_decide_eq_true (h ▸ decide_eq_true z)
  · intro z
    exact of_decide_eq_true (h.symm ▸ decide_eq_true z)
