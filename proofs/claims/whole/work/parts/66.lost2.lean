/-! lost, group -/
theorem one_shl : ∀ k, k < 31 → (1 : Int32) <<< (nI k &&& 31) = nI (2 ^ k) := by decide +kernel
theorem and_mask (N f w : Nat) : N &&& (2 ^ (f + w) - 2 ^ f) = 2 ^ f * mask (fun t => N.testBit (f + t)) w := by
  apply Nat.eq_of_testBit_eq
  intro j
  have e : 2 ^ (f + w) - 2 ^ f = 2 ^ f * (2 ^ w - 1) := by rw [Nat.pow_add, Nat.mul_sub, Nat.mul_one]
  rw [Nat.testBit_and, e, Nat.testBit_two_pow_mul, Nat.testBit_two_pow_mul, Nat.testBit_two_pow_sub_one, mask_tb]
  by_cases h : f ≤ j
  · rw [decide_eq_true h, show f + (j - f) = j by omega, Bool.true_and, Bool.true_and]
    cases N.testBit j <;> simp
  · rw [decide_eq_false (by simpa using h), Bool.false_and, Bool.false_and, Bool.and_false]
section LO
variable {S : St} {A : Ch}
/-- what is gone of group q -/
def gone (N g q : Nat) : Nat := 2 ^ (q * g) * mask (fun t => N.testBit (q * g + t)) (wid g q)
def many (N g q : Nat) : Nat := cb (fun t => N.testBit (q * g + t)) (wid g q)
def lostQ (N g q : Nat) : Int32 := if N.testBit (24 + q) = true then nI (gone N g q) else if many N g q ≤ 1 then 0 else nI (gone N g q)
def grps (g : Nat) : Nat := (23 + g) / g
theorem grps_iff {g q : Nat} (h1 : 1 ≤ g) : q < grps g ↔ q * g < 24 := by
  unfold grps
  rw [show q < (23 + g) / g ↔ q + 1 ≤ (23 + g) / g from Iff.rfl, Nat.le_div_iff_mul_le (by omega), Nat.succ_mul]
  omega
theorem gone_lt {N g q : Nat} (hq : q * g < 24) : gone N g q < 2 ^ 24 := by
  unfold gone
  have h1 := mask_lt (fun t => N.testBit (q * g + t)) (wid g q)
  have h2 : q * g + wid g q ≤ 24 := by unfold wid; omega
  have h3 : 2 ^ (q * g) * mask (fun t => N.testBit (q * g + t)) (wid g q) < 2 ^ (q * g) * 2 ^ wid g q := Nat.mul_lt_mul_of_pos_left h1 (Nat.two_pow_pos _)
  rw [← Nat.pow_add] at h3
  exact Nat.lt_of_lt_of_le h3 (Nat.pow_le_pow_right (by decide) h2)
theorem many_y {N g q : Nat} : cb (mask (fun t => N.testBit (q * g + t)) (wid g q)).testBit (wid g q) = many N g q := by
  unfold many
  refine cb_cong _ (fun k hk => ?_)
  rw [mask_tb]
  simp [hk]
theorem los_N (hw : Wf A) {r : Nat} (hr : r < A.ln) : ∃ N, N < 2 ^ 48 ∧ A.los r = lN N := by
  obtain ⟨h1, h2⟩ := hw.2.2.2.2.2.2.2.2.2.2 r hr
  obtain ⟨k, hk, e⟩ := pk_lOf (x := A.los r) (fun z => by rw [Int64.lt_iff_toInt_lt] at z; have : (0 : Int64).toInt = 0 := rfl; omega)
  refine ⟨k, ?_, e⟩
  rw [e, pk_lT hk] at h2
  omega
theorem lgc_eq (a b : Int64) : lg_cmp a b = 0 ↔ a = b := lg_cmp_eq a b
theorem l01 {c : Bool} : ((if c = true then (1 : Int64) else 0) = 0 ↔ c = false) ∧ ((if c = true then (1 : Int64) else 0) = 1 ↔ c = true) := by
  cases c
  · exact ⟨⟨fun _ => rfl, fun _ => rfl⟩, ⟨fun h => absurd h (by decide), fun h => absurd h (by decide)⟩⟩
  · exact ⟨⟨fun h => absurd h (by decide), fun h => absurd h (by decide)⟩, ⟨fun _ => rfl, fun _ => rfl⟩⟩
theorem lostOf_ok {r N g : Nat} (e : rJ S 9 r = lN N) (hr : r < 8) (hN : N < 2 ^ 48) (h1 : 1 ≤ g) (h2 : g ≤ 12) : X3_lostOf S (nI r) (nI g) = some (fo (fun q (v : Int32) => v ||| lostQ N g q) 0 (grps g) 0) := by
  have hg24 : grps g ≤ 24 := by
    have : ¬ 24 < grps g := fun z => by have := (grps_iff h1).mp z; have : 24 * 1 ≤ 24 * g := Nat.mul_le_mul_left 24 h1; omega
    omega
  have h := foldG (fun n k (s : Int32) => X3_lostOf_L5 S (nI r) (nI g) n s (nI k)) id (grps g) (fun q (v : Int32) => v ||| lostQ N g q) (fun n s => by
    show X3_lostOf_L5 S (nI r) (nI g) (n + 1) s (nI (grps g)) = some s
    by_cases hc : 24 ≤ grps g
    · exact if_pos (nI_le (a := 24) (b := grps g) hc (by omega))
    · refine (if_neg (nI_ge (a := grps g) (b := 24) (by omega) (by decide))).trans ?_
      have hge : ¬ grps g * g < 24 := fun z => Nat.lt_irrefl _ ((grps_iff h1).mpr z)
      have hub : grps g * g ≤ 24 * 12 := Nat.mul_le_mul hg24 h2
      rw [pk_mul]
      exact if_pos (nI_le (a := 24) (by omega) (by omega))) (fun n k s hk => by
    have hq := (grps_iff h1).mp hk
    show X3_lostOf_L5 S (nI r) (nI g) (n + 1) s (nI k) = X3_lostOf_L5 S (nI r) (nI g) n (s ||| lostQ N g k) (nI (k + 1))
    have el : ldL S 9 (nI r) = some (lN N) := (ldL_s S 9 r rfl rfl (by show _ < 8; omega)).trans (congrArg some e)
    refine (if_neg (nI_ge (a := k) (b := 24) (by omega) (by decide))).trans ?_
    refine (if_neg (by rw [pk_mul]; exact nI_ge (b := 24) hq (by decide))).trans ?_
    refine (bd el).trans ?_
    refine (bd el).trans ?_
    have eb : ((lN N >>> (((24 + nI k) : Int32).toInt64 &&& 63)) &&& 1) = if N.testBit (24 + k) = true then 1 else 0 := by
      rw [show (24 : Int32) + nI k = nI (24 + k) from nI_add 24 k]
      exact l_bit (by omega) (by omega)
    have eg : ((lN N).toInt32 &&& ((1 <<< ((if ((nI k * nI g) + nI g) < 24 then ((nI k * nI g) + nI g) else 24) &&& 31)) - (1 <<< ((nI k * nI g) &&& 31)))) = nI (gone N g k) := by
      have em : (if ((nI k * nI g) + nI g) < 24 then ((nI k * nI g) + nI g) else 24) = nI (k * g + wid g k) := by
        rw [pk_mul, nI_add]
        unfold wid
        by_cases hc : k * g + g < 24
        · refine (if_pos (nI_lt (b := 24) hc (by decide))).trans ?_
          congr 1
          omega
        · refine (if_neg (fun z => hc ((nI_ltI (b := 24) (by omega) (by decide)).mp z))).trans ?_
          show nI 24 = _
          congr 1
          omega
      have hwd : k * g + wid g k ≤ 24 := by unfold wid; omega
      rw [em, pk_mul, one_shl _ (by omega), one_shl _ (by omega), pk_sub (Nat.pow_le_pow_right (by decide) (by omega)), lN_i, nI_and, and_mask]
      rfl
    rw [eg, ← nI_1]
    have hgl := gone_lt (N := N) hq
    have hbc := bcN_ok S (x := gone N g k) (by omega)
    have hbt := bcG h1 h2 hq (mask_lt (fun t => N.testBit (k * g + t)) (wid g k))
    rw [many_y] at hbt
    have hbt : bcN (gone N g k) ≤ 1 ↔ many N g k ≤ 1 := hbt
    unfold lostQ
    by_cases hs : N.testBit (24 + k) = true
    · rw [if_pos hs]
      refine (bd (if_neg (fun z => by rw [lgc_eq, eb, l01.1] at z; rw [z] at hs; cases hs))).trans ?_
      exact bd (if_neg (by decide))
    · have hs' : N.testBit (24 + k) = false := by simpa using hs
      rw [if_neg hs]
      refine (bd (if_pos (by rw [lgc_eq, eb, l01.1]; exact hs'))).trans ?_
      rw [if_pos rfl, hbc.1]
      by_cases hm : many N g k ≤ 1
      · rw [if_pos hm, Int32.or_zero]
        exact bd (if_pos ((i_le (nI (bcN (gone N g k))) 1 1).mpr (by rw [nT (by omega)]; have := hbt.mpr hm; omega)))
      · rw [if_neg hm]
        exact bd (if_neg (fun z => hm (hbt.mp (by have := (i_le (nI (bcN (gone N g k))) 1 1).mp z; rw [nT (by omega)] at this; omega))))) (grps g) FU 0 0 (by omega) (FU_lt (by omega))
  unfold X3_lostOf
  exact bd h
theorem mgone {r N g q : Nat} (e : rJ S 62 r = lN N) (hr : r < 8) (hN : N < 2 ^ 48) (h2 : g ≤ 12) (hq : q * g < 24) (v3 : Int32) : X11_lostBy_L22 S (nI r) (nI g) v3 (nI (q * g)) FU 0 0 (nI (q * g)) = some (nI (gone N g q), nI (many N g q)) := by
  have el : ldL S 62 (nI r) = some (lN N) := (ldL_s S 62 r rfl rfl (by show _ < 8; omega)).trans (congrArg some e)
  have hwd : q * g + wid g q ≤ 24 ∧ q * g + wid g q ≤ q * g + g := by unfold wid; omega
  obtain ⟨t, ht, q1⟩ := forG (fun n k (s : Int32 × Int32) => X11_lostBy_L22 S (nI r) (nI g) v3 (nI (q * g)) n s.1 s.2 (nI (q * g + k))) (wid g q) (fun k s => s = (nI (2 ^ (q * g) * mask (fun t => N.testBit (q * g + t)) k), nI (cb (fun t => N.testBit (q * g + t)) k))) (fun t => t = (nI (gone N g q), nI (many N g q))) (fun n s hp => by
    refine ⟨(s.1, s.2), ?_, hp⟩
    by_cases hc : q * g + g ≤ q * g + wid g q
    · exact if_pos (by rw [nI_add]; exact nI_le hc (by omega))
    · refine (if_neg (by rw [nI_add]; exact nI_ge (by omega) (by omega))).trans ?_
      exact if_pos (nI_le (a := 24) (by unfold wid at hc ⊢; omega) (by omega))) (fun n k s hk hp => by
    right
    refine ⟨(nI (2 ^ (q * g) * mask (fun t => N.testBit (q * g + t)) (k + 1)), nI (cb (fun t => N.testBit (q * g + t)) (k + 1))), ?_, rfl⟩
    show X11_lostBy_L22 S (nI r) (nI g) v3 (nI (q * g)) (n + 1) s.1 s.2 (nI (q * g + k)) = X11_lostBy_L22 S (nI r) (nI g) v3 (nI (q * g)) n (nI (2 ^ (q * g) * mask (fun t => N.testBit (q * g + t)) (k + 1))) (nI (cb (fun t => N.testBit (q * g + t)) (k + 1))) (nI (q * g + (k + 1)))
    rw [hp]
    refine (if_neg (by rw [nI_add]; exact nI_ge (by omega) (by omega))).trans ?_
    refine (if_neg (nI_ge (b := 24) (by omega) (by decide))).trans ?_
    refine (bd el).trans ?_
    have eb := l_bit (N := N) (p := q * g + k) (by omega) (by omega)
    have em : mask (fun t => N.testBit (q * g + t)) (k + 1) = mask (fun t => N.testBit (q * g + t)) k + if N.testBit (q * g + k) = true then 2 ^ k else 0 := rfl
    have ec : cb (fun t => N.testBit (q * g + t)) (k + 1) = cb (fun t => N.testBit (q * g + t)) k + if N.testBit (q * g + k) = true then 1 else 0 := rfl
    rw [em, ec, show q * g + (k + 1) = q * g + k + 1 by omega, ← nI_1 (q * g + k)]
    by_cases hb : N.testBit (q * g + k) = true
    · rw [if_pos hb, if_pos hb]
      refine (bd (if_pos (by rw [lgc_eq, eb, l01.2]; exact hb))).trans ?_
      refine (bd (if_neg (by decide))).trans ?_
      refine (bd (if_neg (by decide))).trans ?_
      have eo : nI (2 ^ (q * g) * mask (fun t => N.testBit (q * g + t)) k) ||| (1 <<< (nI (q * g + k) &&& 31)) = nI (2 ^ (q * g) * (mask (fun t => N.testBit (q * g + t)) k + 2 ^ k)) := by
        have hml := mask_lt (fun t => N.testBit (q * g + t)) k
        have hlt : 2 ^ (q * g) * mask (fun t => N.testBit (q * g + t)) k < 2 ^ (q * g + k) := by
          rw [Nat.pow_add]
          exact Nat.mul_lt_mul_of_pos_left hml (Nat.two_pow_pos _)
        rw [one_shl _ (by omega), nI_or, Nat.or_comm, Nat.mul_add, ← Nat.pow_add, Nat.add_comm (2 ^ (q * g) * _)]
        have := Nat.two_pow_add_eq_or_of_lt hlt 1
        rw [Nat.mul_one] at this
        rw [this]
      rw [eo, nI_1]
    · rw [if_neg hb, if_neg hb]
      refine (bd (if_neg (fun z => by rw [lgc_eq, eb, l01.2] at z; exact hb z))).trans ?_
      refine (bd (if_pos rfl)).trans ?_
      refine (bd (if_pos rfl)).trans ?_
      rw [Int32.or_zero, Int32.add_zero, Nat.add_zero, Nat.add_zero]) (wid g q) FU 0 (0, 0) (by omega) (FU_lt (by omega)) (by show (0, 0) = (nI (2 ^ (q * g) * 0), nI 0); rw [Nat.mul_zero]; rfl)
  rw [← q1]
  exact ht
theorem lostBy_ok {r N g : Nat} (e : rJ S 62 r = lN N) (hr : r < 8) (hN : N < 2 ^ 48) (h1 : 1 ≤ g) (h2 : g ≤ 12) : X11_lostBy S (nI r) (nI g) = some (fo (fun q (v : Int32) => v ||| lostQ N g q) 0 (grps g) 0) := by
  have hg24 : grps g ≤ 24 := by
    have : ¬ 24 < grps g := fun z => by have := (grps_iff h1).mp z; have : 24 * 1 ≤ 24 * g := Nat.mul_le_mul_left 24 h1; omega
    omega
  have el : ldL S 62 (nI r) = some (lN N) := (ldL_s S 62 r rfl rfl (by show _ < 8; omega)).trans (congrArg some e)
  have h := foldG (fun n k (s : Int32) => X11_lostBy_L5 S (nI r) (nI g) n s (nI (k * g))) id (grps g) (fun q (v : Int32) => v ||| lostQ N g q) (fun n s => by
    have hge : ¬ grps g * g < 24 := fun z => Nat.lt_irrefl _ ((grps_iff h1).mpr z)
    have hub : grps g * g ≤ 24 * 12 := Nat.mul_le_mul hg24 h2
    exact if_pos (nI_le (a := 24) (by omega) (by omega))) (fun n k s hk => by
    have hq := (grps_iff h1).mp hk
    show X11_lostBy_L5 S (nI r) (nI g) (n + 1) s (nI (k * g)) = X11_lostBy_L5 S (nI r) (nI g) n (s ||| lostQ N g k) (nI ((k + 1) * g))
    refine (if_neg (nI_ge (b := 24) hq (by decide))).trans ?_
    refine (bd (mgone e hr hN h2 hq s)).trans ?_
    refine (bd el).trans ?_
    have ed : dvO (nI (k * g)) (nI g) = some (nI k) := by
      unfold dvO
      rw [if_neg (fun z => by have := (nI_eq (a := g) (b := 0) (by omega) (by omega)).mp z; omega), pk_div (by omega) (by omega) (by omega), Nat.mul_div_cancel k (by omega)]
    refine (bd ed).trans ?_
    have eb : ((lN N >>> (((24 + nI k) : Int32).toInt64 &&& 63)) &&& 1) = if N.testBit (24 + k) = true then 1 else 0 := by
      rw [show (24 : Int32) + nI k = nI (24 + k) from nI_add 24 k]
      exact l_bit (by omega) (by omega)
    have hml : many N g k ≤ 12 := by
      have := cb_le (fun t => N.testBit (k * g + t)) (wid g k)
      have h3 : wid g k ≤ 12 := by unfold wid; omega
      exact Nat.le_trans this h3
    rw [Nat.succ_mul, ← nI_add]
    unfold lostQ
    by_cases hs : N.testBit (24 + k) = true
    · rw [if_pos hs]
      refine (bd (if_pos (by rw [lgc_eq, eb, l01.2]; exact hs))).trans ?_
      by_cases hm1 : nI (many N g k) = 1
      · rw [if_pos hm1]
        exact bd (if_neg (by decide))
      · exact bd (if_neg hm1)
    · rw [if_neg hs]
      refine (bd (if_neg (fun z => by rw [lgc_eq, eb, l01.2] at z; exact hs z))).trans ?_
      by_cases hm1 : many N g k = 1
      · rw [hm1, if_pos (show 1 ≤ 1 by omega)]
        rfl
      · have hm2 : ¬ nI (many N g k) = 1 := fun z => hm1 ((nI_eq (b := 1) (by omega) (by omega)).mp z)
        refine (bd (if_neg hm2)).trans ?_
        by_cases hm : many N g k ≤ 1
        · have h0 : many N g k = 0 := by omega
          rw [if_pos hm]
          have : gone N g k = 0 := by
            unfold gone
            rw [mask_0 _ h0, Nat.mul_zero]
          rw [this]
          rfl
        · rw [if_neg hm]) (grps g) FU 0 0 (by omega) (FU_lt (by omega))
  unfold X11_lostBy
  have h : X11_lostBy_L5 S (nI r) (nI g) FU 0 (nI (0 * g)) = _ := h
  rw [Nat.zero_mul] at h
  exact bd h
end LO
theorem st_lost : ∀ (S : St) (a0 : Int32) (a1 : Int32), Inv S → ∃ (r : Int32), X10_lost S a0 a1 = some r ∧ X11_lost S a0 a1 = some r ∧ Inv S := by
  intro S a b hI
  obtain ⟨⟨A, hw, hx, hm⟩, -⟩ := id hI
  have hln : A.ln ≤ 8 := hw.2.2.2.2.2.2.2.2.2.1
  have ex : rI S 8 0 = nI A.ln := hx.1.2.2.2.2.2
  have em : ldA S 61 132 = some (nI A.ln) := (ldA_s S 61 132 rfl rfl (by decide)).trans (congrArg some hm.1.2.2.2.2.2)
  have eM : X11_lost S a b = if 0 ≤ a.toInt ∧ a.toInt ≤ (A.ln : Int) - 1 then (if 1 ≤ b.toInt ∧ b.toInt ≤ 12 then (X11_lostBy S a b).bind fun x => some x else some (-1)) else some (-1) := by
    unfold X11_lost
    refine (bd em).trans ?_
    refine (md S a 0 (nI A.ln - 1).toInt64 0 (A.ln - 1) (by decide) (by rw [tI64]; exact pk_sub_toInt (a := A.ln) (b := 1) (by omega) (by omega))).trans ?_
    rw [md S b 1 12 1 12]
  have eX : X10_lost S a b = if 0 ≤ a.toInt ∧ a.toInt ≤ (A.ln : Int) - 1 then (if 1 ≤ b.toInt ∧ b.toInt ≤ 12 then (X3_lostOf S a b).bind fun x => some x else some (-1)) else some (-1) := by
    unfold X10_lost
    rw [gd b 1 12 1 12, ex]
    by_cases h1 : a < 0
    · have := (i_lt a 0 0).mp h1
      rw [if_pos h1, if_neg (by omega)]
    · have h1' : ¬ a.toInt < 0 := fun y => h1 ((i_lt a 0 0).mpr y)
      rw [if_neg h1]
      by_cases h2 : nI A.ln ≤ a
      · have := (i_ge a (nI A.ln) A.ln (nT (by omega))).mp h2
        rw [if_pos h2, if_neg (by omega)]
      · have h2' : ¬ (A.ln : Int) ≤ a.toInt := fun y => h2 ((i_ge a (nI A.ln) A.ln (nT (by omega))).mpr y)
        rw [if_neg h2, if_pos (show 0 ≤ a.toInt ∧ a.toInt ≤ (A.ln : Int) - 1 by omega)]
  by_cases h1 : 0 ≤ a.toInt ∧ a.toInt ≤ (A.ln : Int) - 1
  · by_cases h2 : 1 ≤ b.toInt ∧ b.toInt ≤ 12
    · obtain ⟨r, hr, rfl⟩ := i_nat (x := a) (n := A.ln) (by omega) (by omega)
      obtain ⟨g, hg, rfl⟩ := i_nat (x := b) (n := 13) (by omega) (by omega)
      have hg1 := h2.1
      rw [nT (by omega)] at hg1
      obtain ⟨N, hN, eN⟩ := los_N hw hr
      have e1 : rJ S 9 r = lN N := (hx.2.2.2.2.2 r hr).trans eN
      have e2 : rJ S 62 r = lN N := by
        have := (hm.2.2.2.2.2.2 r hr).trans eN
        rw [Nat.zero_add] at this
        exact this
      refine ⟨fo (fun q (v : Int32) => v ||| lostQ N g q) 0 (grps g) 0, ?_, ?_, hI⟩
      · rw [eX, if_pos h1, if_pos h2, lostOf_ok e1 (by omega) hN (by omega) (by omega)]
        rfl
      · rw [eM, if_pos h1, if_pos h2, lostBy_ok e2 (by omega) hN (by omega) (by omega)]
        rfl
    · exact ⟨-1, by rw [eX, if_pos h1, if_neg h2], by rw [eM, if_pos h1, if_neg h2], hI⟩
  · exact ⟨-1, by rw [eX, if_neg h1], by rw [eM, if_neg h1], hI⟩
theorem st_group : ∀ (S : St) , Inv S → ∃ (r : Int32), X10_group S  = some r ∧ X11_group S  = some r ∧ Inv S := by
  intro S hI
  obtain ⟨⟨A, hw, hx, hm⟩, -⟩ := id hI
  have hln : A.ln ≤ 8 := hw.2.2.2.2.2.2.2.2.2.1
  have ex : rI S 8 0 = nI A.ln := hx.1.2.2.2.2.2
  have em : ldA S 61 132 = some (nI A.ln) := (ldA_s S 61 132 rfl rfl (by decide)).trans (congrArg some hm.1.2.2.2.2.2)
  have lx : ∀ r g, r < A.ln → 1 ≤ g → g ≤ 12 → ∃ v, X3_lostOf S (nI r) (nI g) = some v ∧ X11_lostBy S (nI r) (nI g) = some v := fun r g hr h1 h2 => by
    obtain ⟨N, hN, eN⟩ := los_N hw hr
    have e1 : rJ S 9 r = lN N := (hx.2.2.2.2.2 r hr).trans eN
    have e2 : rJ S 62 r = lN N := by
      have := (hm.2.2.2.2.2.2 r hr).trans eN
      rw [Nat.zero_add] at this
      exact this
    exact ⟨_, lostOf_ok e1 (by omega) hN h1 h2, lostBy_ok e2 (by omega) hN h1 h2⟩
  have key : ∀ g, 1 ≤ g → g ≤ 12 → ∃ b : Int32, (b = 0 ∨ b = 1) ∧ X3_losesNothing S (nI g) = some b ∧ X11_group_L11 S (nI g) FU 1 0 = some b := by
    intro g h1 h2
    have z : ∀ c n k, k + c = A.ln → c < n → X11_group_L11 S (nI g) n 0 (nI k) = some 0 := by
      intro c
      induction c with
      | zero =>
        intro n k hk hn
        obtain ⟨m, rfl⟩ : ∃ m, n = m + 1 := ⟨n - 1, by omega⟩
        exact (bd em).trans (if_pos (nI_le (by omega) (by omega)))
      | succ c ih =>
        intro n k hk hn
        obtain ⟨m, rfl⟩ : ∃ m, n = m + 1 := ⟨n - 1, by omega⟩
        refine Eq.trans ?_ (ih m (k + 1) (by omega) (by omega))
        refine (bd em).trans ?_
        refine (if_neg (nI_ge (by omega) (by omega))).trans ?_
        rw [← nI_1]
        exact bd (if_pos rfl)
    have h : ∀ c n k, k + c = A.ln → c < n → (X3_losesNothing_L2 S (nI g) n (nI k) = some (.inl ()) ∧ X11_group_L11 S (nI g) n 1 (nI k) = some 1) ∨ (X3_losesNothing_L2 S (nI g) n (nI k) = some (.inr 0) ∧ X11_group_L11 S (nI g) n 1 (nI k) = some 0) := by
      intro c
      induction c with
      | zero =>
        intro n k hk hn
        obtain ⟨m, rfl⟩ : ∃ m, n = m + 1 := ⟨n - 1, by omega⟩
        left
        exact ⟨if_pos (by rw [ex]; exact nI_le (by omega) (by omega)), (bd em).trans (if_pos (nI_le (by omega) (by omega)))⟩
      | succ c ih =>
        intro n k hk hn
        obtain ⟨m, rfl⟩ : ∃ m, n = m + 1 := ⟨n - 1, by omega⟩
        obtain ⟨v, v1, v2⟩ := lx k g (by omega) h1 h2
        have s1 : X3_losesNothing_L2 S (nI g) (m + 1) (nI k) = if v = 0 then X3_losesNothing_L2 S (nI g) m (nI (k + 1)) else some (.inr 0) := by
          refine (if_neg (by rw [ex]; exact nI_ge (by omega) (by omega))).trans ?_
          rw [← nI_1]
          exact bd v1
        have s2 : X11_group_L11 S (nI g) (m + 1) 1 (nI k) = if v = 0 then X11_group_L11 S (nI g) m 1 (nI (k + 1)) else X11_group_L11 S (nI g) m 0 (nI (k + 1)) := by
          refine (bd em).trans ?_
          refine (if_neg (nI_ge (by omega) (by omega))).trans ?_
          rw [← nI_1, if_neg (by decide), v2]
          by_cases hv : v = 0
          · rw [if_pos hv]
            exact bd (if_pos hv)
          · rw [if_neg hv]
            exact bd (if_neg hv)
        rw [s1, s2]
        by_cases hv : v = 0
        · rw [if_pos hv, if_pos hv]
          exact ih m (k + 1) (by omega) (by omega)
        · rw [if_neg hv, if_neg hv]
          right
          exact ⟨rfl, z c m (k + 1) (by omega) (by omega)⟩
    rcases h A.ln FU 0 (by omega) (FU_lt (by omega)) with ⟨y1, y2⟩ | ⟨y1, y2⟩
    · refine ⟨1, Or.inr rfl, ?_, y2⟩
      unfold X3_losesNothing
      exact bd y1
    · refine ⟨0, Or.inl rfl, ?_, y2⟩
      unfold X3_losesNothing
      exact bd y1
  have hh : ∀ g n, g ≤ 12 → g < n → ∃ t, X10_group_L3 S n (nI g) = some t ∧ X11_group_L3 S n (nI g) = some t := by
    intro g
    induction g with
    | zero =>
      intro n _ hn
      obtain ⟨m, rfl⟩ : ∃ m, n = m + 1 := ⟨n - 1, by omega⟩
      exact ⟨.inl (), if_pos (by decide), if_pos (by decide)⟩
    | succ g ih =>
      intro n hg hn
      obtain ⟨m, rfl⟩ : ∃ m, n = m + 1 := ⟨n - 1, by omega⟩
      obtain ⟨b, hb, b1, b2⟩ := key (g + 1) (by omega) hg
      have s1 : X10_group_L3 S (m + 1) (nI (g + 1)) = if b = 0 then X10_group_L3 S m (nI g) else some (.inr (nI (g + 1))) := by
        refine (if_neg (fun z => by have := (nI_ltI (a := g + 1) (b := 1) (by omega) (by decide)).mp z; omega)).trans ?_
        rw [← pk_m1 g]
        exact bd b1
      have s2 : X11_group_L3 S (m + 1) (nI (g + 1)) = if b = 0 then X11_group_L3 S m (nI g) else some (.inr (nI (g + 1))) := by
        refine (if_neg (fun z => by have := (nI_leI (a := g + 1) (b := 0) (by omega) (by decide)).mp z; omega)).trans ?_
        rw [← pk_m1 g]
        exact bd b2
      rw [s1, s2]
      by_cases h0 : b = 0
      · rw [if_pos h0, if_pos h0]
        exact ih m (by omega) (by omega)
      · rw [if_neg h0, if_neg h0]
        exact ⟨_, rfl, rfl⟩
  obtain ⟨t, t1, t2⟩ := hh 12 FU (by omega) (FU_lt (by omega))
  refine ⟨match t with | .inr x => x | .inl _ => -4, ?_, ?_, hI⟩
  · unfold X10_group
    refine (bd t1).trans ?_
    cases t <;> rfl
  · unfold X11_group
    refine (bd t2).trans ?_
    cases t <;> rfl
