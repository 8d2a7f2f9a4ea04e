/-! how far the times go -/
theorem rngI (x : Int32) : -2147483648 ≤ x.toInt ∧ x.toInt < 2147483648 := by
  have h1 := Int32.le_toInt x
  have h2 := Int32.toInt_lt x
  omega
theorem bmI {z : Int} (h1 : -2147483648 ≤ z) (h2 : z < 2147483648) : z.bmod (2 ^ 32) = z := by
  rw [Int.bmod_eq_of_le (by omega) (by omega)]
theorem addI {x y : Int32} (h1 : -2147483648 ≤ x.toInt + y.toInt) (h2 : x.toInt + y.toInt < 2147483648) : (x + y).toInt = x.toInt + y.toInt := by
  rw [Int32.toInt_add, bmI h1 h2]
theorem subI {x y : Int32} (h1 : -2147483648 ≤ x.toInt - y.toInt) (h2 : x.toInt - y.toInt < 2147483648) : (x - y).toInt = x.toInt - y.toInt := by
  rw [Int32.toInt_sub, bmI h1 h2]
theorem mulI {x y : Int32} (h1 : -2147483648 ≤ x.toInt * y.toInt) (h2 : x.toInt * y.toInt < 2147483648) : (x * y).toInt = x.toInt * y.toInt := by
  rw [Int32.toInt_mul, bmI h1 h2]
theorem negI {x : Int32} (h : x.toInt ≠ -2147483648) : (-x).toInt = -x.toInt := by
  have := rngI x
  rw [Int32.toInt_neg, bmI (by omega) (by omega)]
theorem td_b {a : Int} {c : Int} (hc : 0 < c) {K M : Int} (hK : 0 ≤ K) (hM : 0 ≤ M) (h1 : -(K * c) ≤ a) (h2 : a ≤ M * c) : -K ≤ a.tdiv c ∧ a.tdiv c ≤ M := by
  by_cases h : 0 ≤ a
  · rw [Int.tdiv_eq_ediv_of_nonneg h]
    have g1 : 0 ≤ a / c := Int.ediv_nonneg h (by omega)
    have g2 : a / c ≤ M := Int.ediv_le_of_le_mul hc h2
    omega
  · have e : a = -(-a) := by omega
    rw [e, Int.neg_tdiv, Int.tdiv_eq_ediv_of_nonneg (by omega)]
    have g1 : 0 ≤ (-a) / c := Int.ediv_nonneg (by omega) (by omega)
    have g2 : (-a) / c ≤ K := Int.ediv_le_of_le_mul hc (by omega)
    omega
theorem td_neg {a c : Int} (hc : 0 < c) (h : a ≤ 0) : a.tdiv c ≤ 0 := by
  have e : a = -(-a) := by omega
  rw [e, Int.neg_tdiv, Int.tdiv_eq_ediv_of_nonneg (by omega)]
  have g1 : 0 ≤ (-a) / c := Int.ediv_nonneg (by omega) (by omega)
  omega
theorem td_pos {a c M : Int} (hc : 0 < c) (h0 : 0 ≤ a) (h : a ≤ M * c) : a.tdiv c ≤ M := by
  rw [Int.tdiv_eq_ediv_of_nonneg h0]
  exact Int.ediv_le_of_le_mul hc h
theorem divI {x y : Int32} (hy : 0 < y.toInt) : (x / y).toInt = x.toInt.tdiv y.toInt := by
  rw [Int32.toInt_div]
  have r := rngI x
  have hb := td_b (a := x.toInt) (c := y.toInt) hy (K := 2147483648) (M := 2147483647) (by omega) (by omega) (by omega) (by omega)
  exact bmI (by omega) (by omega)
section BO
variable {A : Ch}
theorem tkI (hw : Wf A) {same o r : Nat} (hs : same ≤ 400) (ho : o < 8) (hr1 : r < 8) : 0 ≤ (tk A same o r).toInt ∧ (tk A same o r).toInt ≤ 400 := by
  have := hw.2.2.1 o r ho hr1
  unfold tk
  split
  · rw [nT (by omega)]; omega
  · rw [nT (by omega)]; omega
theorem gsI (hw : Wf A) {r : Nat} (hr1 : r < A.n) : 0 ≤ (gs A r).toInt ∧ (gs A r).toInt ≤ 400 := by
  have h : A.val r 4 ≤ 400 := hw.2.1 r 4 hr1 (by omega)
  unfold gs
  split
  · rw [nT (by omega)]; omega
  · exact ⟨by decide, by decide⟩
theorem MS_b (hw : Wf A) {same r : Nat} {t : Nat → Int32} {B : Int} (hs : same ≤ 400) (hr1 : r < A.n) (hB : 0 ≤ B) (hB2 : B ≤ 99960) (ht : ∀ o, o < A.n → A.val o 0 < 4 → -999 ≤ (t o).toInt ∧ (t o).toInt ≤ B) (hro : -999 ≤ (t r).toInt ∧ (t r).toInt ≤ B) : -((1399 + B) * (cb (hr A r) A.n : Int)) ≤ (MS A same t r A.n).toInt ∧ (MS A same t r A.n).toInt ≤ (B + 400 - (t r).toInt) * (cb (hr A r) A.n : Int) := by
  have hn := hw.1
  have key := fo_inv (f := fun o (v : Int32) => if hr A r o = true then v + (((t o + tk A same o r) - gs A r) - t r) else v) (fun k v => -((1399 + B) * (cb (hr A r) k : Int)) ≤ v.toInt ∧ v.toInt ≤ (B + 400 - (t r).toInt) * (cb (hr A r) k : Int)) A.n 0 0 (by
    show -((1399 + B) * ((0 : Nat) : Int)) ≤ (0 : Int32).toInt ∧ (0 : Int32).toInt ≤ (B + 400 - (t r).toInt) * ((0 : Nat) : Int)
    have : (0 : Int32).toInt = 0 := rfl
    rw [this]
    simp) (fun k v _ hk hp => by
    have hk : k < A.n := by omega
    by_cases hh : hr A r k = true
    · rw [if_pos hh, cb_y hh]
      obtain ⟨h1, h2⟩ := hr_iff.mp hh
      have hcl := cb_le (hr A r) k
      have ta := ht k hk h1
      have tb := tkI hw (r := r) hs (show k < 8 by omega) (by omega)
      have tc := gsI hw hr1
      have e1 : (t k + tk A same k r).toInt = (t k).toInt + (tk A same k r).toInt := addI (by omega) (by omega)
      have e2 : ((t k + tk A same k r) - gs A r).toInt = (t k).toInt + (tk A same k r).toInt - (gs A r).toInt := by rw [subI (by omega) (by omega), e1]
      have e3 : (((t k + tk A same k r) - gs A r) - t r).toInt = (t k).toInt + (tk A same k r).toInt - (gs A r).toInt - (t r).toInt := by rw [subI (by omega) (by omega), e2]
      have m1 : (1399 + B) * ((cb (hr A r) k + 1 : Nat) : Int) = (1399 + B) * (cb (hr A r) k : Int) + (1399 + B) := by
        rw [Int.natCast_add, Int.mul_add]; simp
      have m2 : (B + 400 - (t r).toInt) * ((cb (hr A r) k + 1 : Nat) : Int) = (B + 400 - (t r).toInt) * (cb (hr A r) k : Int) + (B + 400 - (t r).toInt) := by
        rw [Int.natCast_add, Int.mul_add]; simp
      have n1 : (1399 + B) * (cb (hr A r) k : Int) ≤ (1399 + B) * 8 := Int.mul_le_mul_of_nonneg_left (by omega) (by omega)
      have n2 : (B + 400 - (t r).toInt) * (cb (hr A r) k : Int) ≤ (B + 400 - (t r).toInt) * 8 := Int.mul_le_mul_of_nonneg_left (by omega) (by omega)
      have e4 : (v + (((t k + tk A same k r) - gs A r) - t r)).toInt = v.toInt + ((t k).toInt + (tk A same k r).toInt - (gs A r).toInt - (t r).toInt) := by rw [addI (by omega) (by omega), e3]
      rw [e4, m1, m2]
      omega
    · rw [if_neg hh, cb_n hh]
      exact hp)
  rw [Nat.zero_add] at key
  exact key
theorem lag_b (hw : Wf A) {same r : Nat} {t : Nat → Int32} {B : Int} (hs : same ≤ 400) (hr1 : r < A.n) (hB : 0 ≤ B) (hB2 : B ≤ 99960) (ht : ∀ o, o < A.n → A.val o 0 < 4 → -999 ≤ (t o).toInt ∧ (t o).toInt ≤ B) (hro : -999 ≤ (t r).toInt ∧ (t r).toInt ≤ B) : -(1399 + B) ≤ (lag A same t r).toInt ∧ (lag A same t r).toInt ≤ B + 400 - (t r).toInt := by
  have hn := hw.1
  have hcl := cb_le (hr A r) A.n
  unfold lag
  by_cases h0 : cb (hr A r) A.n = 0
  · rw [if_pos h0]
    have : (0 : Int32).toInt = 0 := rfl
    omega
  · rw [if_neg h0]
    have hc : (nI (cb (hr A r) A.n)).toInt = (cb (hr A r) A.n : Int) := nT (by omega)
    rw [divI (by omega), hc]
    obtain ⟨b1, b2⟩ := MS_b hw (same := same) (t := t) hs hr1 hB hB2 ht hro
    exact td_b (by omega) (by omega) (by omega) b1 b2
theorem nx_b (hw : Wf A) {same r : Nat} {t : Nat → Int32} {B : Int} (hs : same ≤ 400) (hr1 : r < A.n) (hB : 0 ≤ B) (hB2 : B ≤ 99960) (ht : ∀ o, o < A.n → A.val o 0 < 4 → -999 ≤ (t o).toInt ∧ (t o).toInt ≤ B) (hro : -999 ≤ (t r).toInt ∧ (t r).toInt ≤ B) : (nxX A same t r).toInt ≤ B + 2499 := by
  have l := lag_b hw (same := same) (t := t) hs hr1 hB hB2 ht hro
  have v1 : A.val r 1 ≤ 99 := hw.2.1 r 1 hr1 (by omega)
  have v2 : A.val r 2 ≤ 100 := hw.2.1 r 2 hr1 (by omega)
  have hp := hw.2.2.2.2.1
  obtain ⟨L, hL⟩ : ∃ L, L = (lag A same t r).toInt := ⟨_, rfl⟩
  rw [← hL] at l
  have e2 : (nI (A.val r 2)).toInt = (A.val r 2 : Int) := nT (by omega)
  have p1 : (A.val r 2 : Int) * L ≤ 100 * (B + 400 + 999) := by
    by_cases h : 0 ≤ L
    · have := Int.mul_le_mul_of_nonneg_right (show (A.val r 2 : Int) ≤ 100 by omega) h
      omega
    · have : (A.val r 2 : Int) * L ≤ 0 := Int.mul_nonpos_of_nonneg_of_nonpos (by omega) (by omega)
      omega
  have p2 : -(100 * (1399 + B)) ≤ (A.val r 2 : Int) * L := by
    by_cases h : 0 ≤ L
    · have : 0 ≤ (A.val r 2 : Int) * L := Int.mul_nonneg (by omega) h
      omega
    · have := Int.mul_le_mul_of_nonneg_right (show (A.val r 2 : Int) ≤ 100 by omega) (show 0 ≤ -L by omega)
      rw [Int.mul_neg] at this
      omega
  have em : (nI (A.val r 2) * lag A same t r).toInt = (A.val r 2 : Int) * L := by
    rw [mulI (by rw [e2, ← hL]; omega) (by rw [e2, ← hL]; omega), e2, hL]
  have h100 : (100 : Int32).toInt = 100 := rfl
  have ed : ((nI (A.val r 2) * lag A same t r) / 100).toInt = ((A.val r 2 : Int) * L).tdiv 100 := by
    rw [divI (by rw [h100]; omega), em, h100]
  have d1 : -(1399 + B) ≤ ((A.val r 2 : Int) * L).tdiv 100 := (td_b (K := 1399 + B) (M := B + 400 + 999) (by omega) (by omega) (by omega) (by omega) (by omega)).1
  have d2 : ((A.val r 2 : Int) * L).tdiv 100 ≤ if 0 ≤ L then L else 0 := by
    by_cases h : 0 ≤ L
    · rw [if_pos h]
      refine td_pos (by omega) (Int.mul_nonneg (by omega) h) ?_
      have := Int.mul_le_mul_of_nonneg_right (show (A.val r 2 : Int) ≤ 100 by omega) h
      omega
    · rw [if_neg h]
      exact td_neg (by omega) (Int.mul_nonpos_of_nonneg_of_nonpos (by omega) (by omega))
  have ep : (nI A.pace).toInt = (A.pace : Int) := nT (by omega)
  have e1 : (nI (A.val r 1)).toInt = (A.val r 1 : Int) := nT (by omega)
  unfold nxX
  have d2' : ((A.val r 2 : Int) * L).tdiv 100 ≤ B + 1399 := by split at d2 <;> omega
  have s1 : (t r + nI A.pace).toInt = (t r).toInt + A.pace := by rw [addI (by omega) (by omega), ep]
  have s2 : ((t r + nI A.pace) + nI (A.val r 1)).toInt = (t r).toInt + A.pace + A.val r 1 := by rw [addI (by omega) (by omega), s1, e1]
  rw [addI (by rw [s2, ed]; omega) (by rw [s2, ed]; omega), s2, ed]
  split at d2 <;> omega
theorem tm_b (hw : Wf A) {same : Nat} (hs : same ≤ 400) : ∀ d, d ≤ 40 → ∀ r, r < A.n → A.val r 0 < 4 → -999 ≤ (tm A same d r).toInt ∧ (tm A same d r).toInt ≤ 2499 * d
  | 0, _, r, hr1, hk => by
    have v3 : A.val r 3 ≤ 999 := hw.2.1 r 3 hr1 (by omega)
    have e3 : (nI (A.val r 3)).toInt = (A.val r 3 : Int) := nT (by omega)
    show -999 ≤ (if A.val r 0 = 2 then -nI (A.val r 3) else 0 : Int32).toInt ∧ (if A.val r 0 = 2 then -nI (A.val r 3) else 0 : Int32).toInt ≤ 2499 * ((0 : Nat) : Int)
    split
    · rw [negI (by omega), e3]
      omega
    · have : (0 : Int32).toInt = 0 := rfl
      omega
  | d + 1, hd, r, hr1, hk => by
    have ih := tm_b hw hs d (by omega)
    have v3 : A.val r 3 ≤ 999 := hw.2.1 r 3 hr1 (by omega)
    have e3 : (nI (A.val r 3)).toInt = (A.val r 3 : Int) := nT (by omega)
    have hp := hw.2.2.2.2.1
    have hm1 : (d + 1) * A.pace ≤ (d + 1) * 2000 := Nat.mul_le_mul_left _ hp.2
    have ek : (nI (d + 1) * nI A.pace).toInt = ((d + 1) * A.pace : Nat) := by rw [pk_mul, nT (by omega)]
    show -999 ≤ (if A.val r 0 = 1 then nI (d + 1) * nI A.pace else if A.val r 0 = 2 then nI (d + 1) * nI A.pace - nI (A.val r 3) else if tm A same d r < nxX A same (tm A same d) r then nxX A same (tm A same d) r else tm A same d r + 1 : Int32).toInt ∧ (if A.val r 0 = 1 then nI (d + 1) * nI A.pace else if A.val r 0 = 2 then nI (d + 1) * nI A.pace - nI (A.val r 3) else if tm A same d r < nxX A same (tm A same d) r then nxX A same (tm A same d) r else tm A same d r + 1 : Int32).toInt ≤ 2499 * ((d + 1 : Nat) : Int)
    split
    · rw [ek]
      omega
    · split
      · rw [subI (by rw [ek, e3]; omega) (by rw [ek, e3]; omega), ek, e3]
        omega
      · have own := ih r hr1 hk
        have nx := nx_b hw (same := same) (r := r) (t := tm A same d) (B := 2499 * d) hs hr1 (by omega) (by omega) (fun o ho hk => ih o ho hk) own
        split
        · rename_i h
          have h := Int32.lt_iff_toInt_lt.mp h
          omega
        · have h1 : (1 : Int32).toInt = 1 := rfl
          rw [addI (by omega) (by omega), h1]
          omega
end BO
