theorem high48 {n : Nat} (h : n < 2 ^ 64) : n &&& 18446462598732840960 = 0 ↔ n < 2 ^ 48 := by
  constructor
  · intro h0
    by_cases hl : n < 2 ^ 48
    · exact hl
    · obtain ⟨i, hi, hb⟩ := Nat.exists_ge_and_testBit_of_ge_two_pow (Nat.le_of_not_lt hl)
      have hi2 : i < 64 := by
        by_cases z : i < 64
        · exact z
        · have : n.testBit i = false := Nat.testBit_lt_two_pow (Nat.lt_of_lt_of_le h (Nat.pow_le_pow_right (by decide) (by omega)))
          rw [this] at hb
          cases hb
      have hm : (18446462598732840960 : Nat).testBit i = true := by
        have key : (List.range 64).all (fun i => decide (i < 48) || (18446462598732840960 : Nat).testBit i) = true := by decide +kernel
        have := List.all_eq_true.mp key i (List.mem_range.mpr hi2)
        simp only [Bool.or_eq_true, decide_eq_true_eq] at this
        exact this.resolve_left (by omega)
      have e : (n &&& 18446462598732840960).testBit i = true := by rw [Nat.testBit_and, hb, hm]; rfl
      rw [h0, Nat.zero_testBit] at e
      cases e
  · intro hl
    apply Nat.eq_of_testBit_eq
    intro i
    rw [Nat.testBit_and, Nat.zero_testBit]
    by_cases hi : i < 48
    · have key : (List.range 48).all (fun i => !(18446462598732840960 : Nat).testBit i) = true := by decide +kernel
      have := List.all_eq_true.mp key i (List.mem_range.mpr hi)
      simp only [Bool.not_eq_true'] at this
      rw [this, Bool.and_false]
    · rw [Nat.testBit_lt_two_pow (Nat.lt_of_lt_of_le hl (Nat.pow_le_pow_right (by decide) (by omega))), Bool.false_and]
theorem lossG (a : Int64) : lg_cmp (a &&& (-281474976710656)) 0 = 0 ↔ 0 ≤ a.toInt ∧ a.toInt ≤ 281474976710655 := by
  rw [lg_cmp_eq]
  have e1 : a &&& (-281474976710656) = 0 ↔ a.toBitVec.toNat &&& 18446462598732840960 = 0 := by
    constructor
    · intro h
      have := congrArg (fun z : Int64 => z.toBitVec.toNat) h
      exact this
    · intro h
      apply Int64.toBitVec_inj.mp
      apply BitVec.eq_of_toNat_eq
      exact h
  rw [e1, high48 a.toBitVec.isLt]
  have hb := a.toBitVec.isLt
  have e2 : a.toInt = if 2 * a.toBitVec.toNat < 2 ^ 64 then (a.toBitVec.toNat : Int) else (a.toBitVec.toNat : Int) - 2 ^ 64 := BitVec.toInt_eq_toNat_cond a.toBitVec
  rw [e2]
  split <;> omega
theorem st_loss : ∀ (S : St) (a0 : Int64), Inv S → ∃ (r : Int32) (S1 : St) (S2 : St), X10_loss S a0 = some (r, S1) ∧ X11_loss S1 a0 = some (r, S2) ∧ Inv S2 := by
  intro S a hI
  obtain ⟨⟨A, hw, hx, hm⟩, -⟩ := id hI
  have hln : A.ln ≤ 8 := hw.2.2.2.2.2.2.2.2.2.1
  have ex : rI S 8 0 = nI A.ln := hx.1.2.2.2.2.2
  have em : rI S 61 132 = nI A.ln := hm.1.2.2.2.2.2
  have eM : ∀ (T : St) (X Y : Option (Int32 × St)), ((X11_in T a 0 281474976710655).bind fun x => if x = 0 then X else Y) = if 0 ≤ a.toInt ∧ a.toInt ≤ 281474976710655 then Y else X := fun T X Y => by
    rw [in_ok]
    exact one0
  by_cases h : 0 ≤ a.toInt ∧ a.toInt ≤ 281474976710655
  · by_cases h8 : A.ln = 8
    · refine ⟨-3, S, S, ?_, ?_, hI⟩
      · unfold X10_loss
        rw [if_pos ((lossG a).mpr h), ex, h8]
        rfl
      · unfold X11_loss
        refine (eM S _ _).trans ?_
        rw [if_pos h]
        refine (bd ((ldA_s S 61 132 rfl rfl (by decide)).trans (congrArg some em))).trans ?_
        rw [h8]
        rfl
    · have hlt : A.ln < 8 := by omega
      have hne : ¬ nI A.ln = 8 := fun z => h8 ((nI_eq (by omega) (by omega)).mp (z : nI A.ln = nI 8))
      have S1e : X3_add S a = some (nI A.ln, wI (wJ S 9 A.ln a) 8 0 (nI (A.ln + 1))) := by
        unfold X3_add
        refine (bd (stL_s S 9 A.ln a rfl ex (by show _ < 8; omega))).trans ?_
        show some (rI (wI (wJ S 9 A.ln a) 8 0 (rI S 8 0 + 1)) 8 0 - 1, wI (wJ S 9 A.ln a) 8 0 (rI S 8 0 + 1)) = _
        rw [rI_wI_s, ex, nI_1, nI_pred]
      refine ⟨nI A.ln, wI (wJ S 9 A.ln a) 8 0 (nI (A.ln + 1)), wI (wJ (wI (wJ S 9 A.ln a) 8 0 (nI (A.ln + 1))) 62 A.ln a) 61 132 (nI (A.ln + 1)), ?_, ?_, ?_⟩
      · unfold X10_loss
        rw [if_pos ((lossG a).mpr h), ex, if_neg hne]
        exact bd S1e
      · unfold X11_loss
        refine (eM _ _ _).trans ?_
        rw [if_pos h]
        refine (bd ((ldA_s _ 61 132 rfl rfl (by decide)).trans (congrArg some em))).trans ?_
        refine (if_neg hne).trans ?_
        refine (bd ((ldA_s _ 61 132 rfl rfl (by decide)).trans (congrArg some em))).trans ?_
        refine (bd (stL_s _ 62 A.ln a rfl rfl (by show _ < 8; omega))).trans ?_
        refine (bd ((ldA_s _ 61 132 rfl rfl (by decide)).trans (congrArg some em))).trans ?_
        refine (bd (stA_s _ 61 132 _ rfl rfl (by decide))).trans ?_
        refine (bd ((ldA_s _ 61 132 rfl rfl (by decide)).trans (congrArg some (rI_wI_s _ _ _ _)))).trans ?_
        rw [nI_1, nI_pred]
      · have hu : Un [9, 8, 62, 61] S (wI (wJ (wI (wJ S 9 A.ln a) 8 0 (nI (A.ln + 1))) 62 A.ln a) 61 132 (nI (A.ln + 1))) := (((Un.wJ S 9 _ _ (by simp)).trs (Un.wI _ 8 _ _ (by simp))).trs (Un.wJ _ 62 _ _ (by simp))).trs (Un.wI _ 61 _ _ (by simp))
        have hn := hw.1
        refine hI.a hu (by decide) (A := (A.n, A.val, A.wire, A.lo, A.pace, A.fit, A.most, A.len, A.snd, A.ln + 1, fun k => if k = A.ln then a else A.los k)) ?_ ?_ ?_
        · obtain ⟨w1, w2, w3, w4, w5, w6, w7, w8, w9, w10, w11⟩ := hw
          refine ⟨w1, w2, w3, w4, w5, w6, w7, w8, w9, (by show A.ln + 1 ≤ 8; omega), fun k hk => ?_⟩
          show 0 ≤ (if k = A.ln then a else A.los k).toInt ∧ _
          have hk : k < A.ln + 1 := hk
          by_cases hkl : k = A.ln
          · show 0 ≤ (if k = A.ln then a else A.los k).toInt ∧ (if k = A.ln then a else A.los k).toInt < 281474976710656
            rw [if_pos hkl]
            omega
          · show 0 ≤ (if k = A.ln then a else A.los k).toInt ∧ (if k = A.ln then a else A.los k).toInt < 281474976710656
            rw [if_neg hkl]
            exact w11 k (by omega)
        · obtain ⟨⟨h1, h2, h3, h4, h5, h6⟩, h7, h8, h9, h10, h11⟩ := hx
          refine ⟨⟨h1, h2, h3, h4, h5, rfl⟩, h7, h8, h9, h10, fun k hk => ?_⟩
          have hk : k < A.ln + 1 := hk
          show (if 9 = 9 ∧ k = A.ln then a else rJ S 9 k) = if k = A.ln then a else A.los k
          by_cases hkl : k = A.ln
          · rw [if_pos ⟨rfl, hkl⟩, if_pos hkl]
          · rw [if_neg (fun z => hkl z.2), if_neg hkl]
            exact h11 k (by omega)
        · have e : ∀ j, j ≠ 132 → rI (wI (wJ (wI (wJ S 9 A.ln a) 8 0 (nI (A.ln + 1))) 62 A.ln a) 61 132 (nI (A.ln + 1))) 61 j = rI S 61 j := fun j hj => by
            rw [rI_wI_k hj, rI_wJ, rI_wI_a (by decide), rI_wJ]
          obtain ⟨⟨p0, p128, p131, p129, p130, p132⟩, pv, pz, pw, pl, ps⟩ := hm.put 132 e
          have hl := hw.2.2.2.2.2.2.2.1
          refine ⟨⟨p0 (by omega), p128 (by omega), p131 (by omega), p129 (by omega), p130 (by omega), rI_wI_s _ _ _ _⟩, fun r w hr hw' => pv r w hr hw' (by have hr : r < A.n := hr; omega), fun r w g1 g2 g3 g4 => pz r w g1 g2 g3 g4 (by omega), fun f t hf ht => pw f t hf ht (by omega), fun d f t hd hf ht => pl d f t hd hf ht (by omega), fun j hj => ps j hj (by omega), fun k hk => ?_⟩
          have hk : k < A.ln + 1 := hk
          show (if 62 = 62 ∧ 0 + k = A.ln then a else rJ S 62 (0 + k)) = if k = A.ln then a else A.los k
          by_cases hkl : k = A.ln
          · rw [if_pos ⟨rfl, by omega⟩, if_pos hkl]
          · rw [if_neg (fun z => hkl (by omega)), if_neg hkl]
            exact hm.2.2.2.2.2.2 k (by omega)
  · refine ⟨-1, S, S, ?_, ?_, hI⟩
    · unfold X10_loss
      rw [if_neg (fun z => h ((lossG a).mp z))]
    · unfold X11_loss
      refine (eM S _ _).trans ?_
      rw [if_neg h]
