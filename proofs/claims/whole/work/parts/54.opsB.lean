theorem gd2 {α : Type} (a lo hi : Int32) (zl zh : Int) {X Y : α} (hlo : lo.toInt = zl := by decide) (hhi : hi.toInt = zh := by decide) : (if a < lo then X else if hi < a then X else Y) = if zl ≤ a.toInt ∧ a.toInt ≤ zh then Y else X := by
  by_cases h1 : a < lo
  · have := (i_lt a lo zl hlo).mp h1
    rw [if_pos h1, if_neg (by omega)]
  · have h1' : ¬ a.toInt < zl := fun z => h1 ((i_lt a lo zl hlo).mpr z)
    rw [if_neg h1]
    by_cases h2 : hi < a
    · have := (i_gt a hi zh hhi).mp h2
      rw [if_pos h2, if_neg (by omega)]
    · have h2' : ¬ zh < a.toInt := fun z => h2 ((i_gt a hi zh hhi).mpr z)
      rw [if_neg h2, if_pos (by omega)]
theorem st_sea : ∀ (S : St) (a0 : Int32) (a1 : Int32), Inv S → ∃ (r : Int32), X10_sea S a0 a1 = some r ∧ X11_sea S a0 a1 = some r ∧ Inv S := by
  intro S a b hI
  have e : X11_sea S a b = X10_sea S a b := by
    unfold X10_sea X11_sea
    rw [gd2 a 1 63 1 63, gd b 1 40000 1 40000, md S a 1 63 1 63]
    split
    · rw [md S b 1 40000 1 40000]
    · rfl
  have h2 : ∃ r, X10_sea S a b = some r := by
    unfold X10_sea
    rw [gd2 a 1 63 1 63, gd b 1 40000 1 40000]
    split
    · rename_i h
      split
      · have hne : ¬ a = 0 := fun z => by
          have := (i_eq a 0 0).mp z
          omega
        have e1 : rmO b a = some (b - b / a * a) := if_neg hne
        have e2 : dvO b a = some (b / a) := if_neg hne
        rw [e1, e2]
        show ∃ r, (if b - b / a * a = 0 then (if b / a ≤ 2000 then some (b / a) else some (-4)) else some (-4)) = some r
        split
        · split <;> exact ⟨_, rfl⟩
        · exact ⟨_, rfl⟩
      · exact ⟨_, rfl⟩
    · exact ⟨_, rfl⟩
  obtain ⟨r, hr⟩ := h2
  exact ⟨r, hr, e.trans hr, hI⟩
theorem st_sound : ∀ (S : St) (a0 : Int32), Inv S → ∃ (r : Int32), X10_sound S a0 = some r ∧ X11_sound S a0 = some r ∧ Inv S := by
  intro S a hI
  obtain ⟨⟨A, hw, hx, hm⟩, -⟩ := id hI
  have hl : A.len ≤ 64 := hw.2.2.2.2.2.2.2.1
  have e6 : rI S 6 0 = nI A.len := hx.1.2.2.2.2.1
  have e130 : rI S 61 130 = nI A.len := hm.1.2.2.2.2.1
  have eM : ∀ X Y : Option Int32, ((ldA S 61 130).bind fun x1 => (X11_in S a.toInt64 0 ((x1 - 1) : Int32).toInt64).bind fun x4 => if x4 = 0 then X else Y) = if 0 ≤ a.toInt ∧ a.toInt ≤ (A.len : Int) - 1 then Y else X := fun X Y => by
    refine (bd ((ldA_s S 61 130 rfl rfl (by decide)).trans (congrArg some e130))).trans ?_
    exact md S a 0 ((nI A.len - 1).toInt64) 0 ((A.len : Int) - 1) (by decide) (by rw [tI64]; exact pk_sub_toInt (a := A.len) (b := 1) (by omega) (by omega))
  by_cases h : 0 ≤ a.toInt ∧ a.toInt < A.len
  · obtain ⟨k, hk, rfl⟩ := i_nat (x := a) (n := A.len) h.1 h.2
    refine ⟨nI (A.snd k), ?_, ?_, hI⟩
    · unfold X10_sound
      rw [if_neg (nI_pos (by omega)), e6, if_pos (nI_lt hk (by omega))]
      exact (bd (ldA_s S 7 k rfl rfl (by show k < 64; omega))).trans (congrArg some (hx.2.2.2.2.1 k hk))
    · unfold X11_sound
      refine (eM _ _).trans ?_
      rw [if_pos (by omega)]
      refine (bd (ldA_s S 61 (136 + k) rfl (nI_add 136 k) (by show _ < 648; omega))).trans ?_
      have := hm.2.2.2.2.2.1 k hk
      rw [show 0 + 136 + k = 136 + k by omega] at this
      exact congrArg some this
  · refine ⟨-1, ?_, ?_, hI⟩
    · unfold X10_sound
      by_cases h1 : a < 0
      · rw [if_pos h1]
      · have h1' : ¬ a.toInt < 0 := fun z => h1 ((i_lt a 0 0).mpr z)
        rw [if_neg h1, e6, if_neg (fun z => by have := (i_lt a (nI A.len) A.len (nT (by omega))).mp z; omega)]
    · unfold X11_sound
      refine (eM _ _).trans ?_
      rw [if_neg (by omega)]
theorem st_clear : ∀ (S : St) , Inv S → ∃ (r : Int32) (S1 : St) (S2 : St), X10_clear S  = some (r, S1) ∧ X11_clear S1  = some (r, S2) ∧ Inv S2 := by
  intro S hI
  obtain ⟨⟨A, hw, hx, hm⟩, -⟩ := id hI
  refine ⟨nI A.ln, wI S 8 0 0, wI (wI S 8 0 0) 61 132 0, ?_, ?_, ?_⟩
  · unfold X10_clear
    show some (rI S 8 0, wI S 8 0 0) = _
    rw [show rI S 8 0 = nI A.ln from hx.1.2.2.2.2.2]
  · unfold X11_clear
    refine (bd (ldA_s _ 61 132 rfl rfl (by decide))).trans ?_
    refine (bd (stA_s _ 61 132 _ rfl rfl (by decide))).trans ?_
    show some (rI S 61 132, _) = _
    rw [show rI S 61 132 = nI A.ln from hm.1.2.2.2.2.2]
  · have hu : Un [8, 61] S (wI (wI S 8 0 0) 61 132 0) := (Un.wI S 8 0 _ (by simp)).trs (Un.wI _ 61 132 _ (by simp))
    have hn := hw.1
    refine hI.a hu (by decide) (A := (A.n, A.val, A.wire, A.lo, A.pace, A.fit, A.most, A.len, A.snd, 0, A.los)) ?_ ?_ ?_
    · obtain ⟨w1, w2, w3, w4, w5, w6, w7, w8, w9, w10, w11⟩ := hw
      exact ⟨w1, w2, w3, w4, w5, w6, w7, w8, w9, Nat.zero_le _, fun k hk => absurd hk (Nat.not_lt_zero k)⟩
    · obtain ⟨⟨h1, h2, h3, h4, h5, h6⟩, h7, h8, h9, h10, h11⟩ := hx
      exact ⟨⟨h1, h2, h3, h4, h5, rfl⟩, h7, h8, h9, h10, fun k hk => absurd hk (Nat.not_lt_zero k)⟩
    · have e : ∀ j, j ≠ 132 → rI (wI (wI S 8 0 0) 61 132 0) 61 j = rI S 61 j := fun j hj => by
        rw [rI_wI_k hj, rI_wI_a (by decide)]
      obtain ⟨⟨p0, p128, p131, p129, p130, p132⟩, pv, pz, pw, pl, ps⟩ := hm.put 132 e
      have hl := hw.2.2.2.2.2.2.2.1
      exact ⟨⟨p0 (by omega), p128 (by omega), p131 (by omega), p129 (by omega), p130 (by omega), rI_wI_s _ _ _ _⟩, fun r w hr hw' => pv r w hr hw' (by have hr : r < A.n := hr; omega), fun r w g1 g2 g3 g4 => pz r w g1 g2 g3 g4 (by omega), fun f t hf ht => pw f t hf ht (by omega), fun d f t hd hf ht => pl d f t hd hf ht (by omega), fun j hj => ps j hj (by omega), fun k hk => absurd hk (Nat.not_lt_zero k)⟩
