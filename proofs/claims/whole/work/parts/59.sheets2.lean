theorem st_sheet : ∀ (S : St) (a0 : Int32) (a1 : Int32) (a2 : Int32), Inv S → ∃ (r : Int32) (S1 : St) (S2 : St), X10_sheet S a0 a1 a2 = some (r, S1) ∧ X11_sheet S1 a0 a1 a2 = some (r, S2) ∧ Inv S2 := by
  intro S a b v hI
  have hs := hI.2.2.2.1
  by_cases h1 : 0 ≤ a.toInt ∧ a.toInt ≤ 3
  · by_cases h2 : 0 ≤ b.toInt ∧ b.toInt ≤ 2
    · by_cases h3 : v ≤ 40
      · by_cases h4 : 0 ≤ v
        · obtain ⟨h, hh, rfl⟩ := i_nat (x := a) (n := 4) h1.1 (by omega)
          obtain ⟨la, hla, rfl⟩ := i_nat (x := b) (n := 3) h2.1 (by omega)
          have h3' := (i_le v 40 40).mp h3
          have h4' := (i_ge v 0 0).mp h4
          obtain ⟨z, hz, rfl⟩ := i_nat (x := v) (n := 41) h4' (by omega)
          obtain ⟨T, eT, uT, fT⟩ := fill_ok (wI (wI S (16 + 2 * h) 0 (nI la)) (16 + 2 * h) 1 (nI z)) hh 0
          obtain ⟨V, eV, uV, fV, gV⟩ := mfill_ok (wI (wI T 77 h (nI la)) 78 h (nI z)) hh (nI z)
          have uT2 : Un [16 + 2 * h, 17 + 2 * h] S T := (((Un.wI S _ _ _ (by simp)).trs (Un.wI _ _ _ _ (by simp)))).trs (uT.mono (by simp))
          have uV2 : Un [77, 78, 79] T V := ((Un.wI T 77 _ _ (by simp)).trs (Un.wI _ 78 _ _ (by simp))).trs (uV.mono (by simp))
          refine ⟨nI z, T, V, ?_, ?_, ?_⟩
          · unfold X10_sheet
            rw [shG, if_pos h1, laG, if_pos h2, if_pos h3, if_pos h4, ldS_s h rfl hh]
            refine (bd (rfl : some (16 + 2 * h) = some (16 + 2 * h))).trans ?_
            refine (bd (ckS hh S)).trans ?_
            have e : X7_renew S (16 + 2 * h) (nI la) (nI z) = some (nI z, T) := by
              unfold X7_renew
              refine (bd (ckS hh S)).trans ?_
              refine (bd (rfl : stF S (16 + 2 * h) 0 (nI la) = some _)).trans ?_
              refine (bd (ckS hh _)).trans ?_
              refine (bd (rfl : stF _ (16 + 2 * h) 1 (nI z) = some _)).trans ?_
              refine (bd (ckS hh _)).trans ?_
              rw [show 16 + 2 * h + 1 = 17 + 2 * h by omega]
              exact bd eT
            rw [e]
            rfl
          · unfold X11_sheet
            rw [mshG, if_pos h1, mlaG, if_pos h2, if_pos h3, if_pos h4]
            refine (bd (stA_s T 77 h _ rfl rfl (by show _ < 4; omega))).trans ?_
            refine (bd (stA_s _ 78 h _ rfl rfl (by show _ < 4; omega))).trans ?_
            exact bd eV
          · have hu : Un [16 + 2 * h, 17 + 2 * h, 77, 78, 79] S V := (uT2.mono (by simp <;> omega)).trs (uV2.mono (by simp <;> omega))
            refine hI.s hu ?_ ?_
            · have : h = 0 ∨ h = 1 ∨ h = 2 ∨ h = 3 := by omega
              rcases this with rfl | rfl | rfl | rfl <;> decide
            · intro g hg
              have v77 : ∀ j, rI V 77 j = if j = h then nI la else rI S 77 j := fun j => by
                rw [(uV 77 (by simp)).1, rI_wI_a (by decide), rI_wI, (uT2 77 (by simp <;> omega)).1]
                simp only [true_and]
              have v78 : ∀ j, rI V 78 j = if j = h then nI z else rI S 78 j := fun j => by
                rw [(uV 78 (by simp)).1, rI_wI, rI_wI_a (by decide), (uT2 78 (by simp <;> omega)).1]
                simp only [true_and]
              have v79 : ∀ j, (j < 40 * h ∨ 40 * h + 40 ≤ j) → rI V 79 j = rI S 79 j := fun j hj => by
                rw [gV j hj, rI_wI_a (by decide), rI_wI_a (by decide), (uT2 79 (by simp <;> omega)).1]
              have vx : ∀ x, x < 77 → ∀ j, rI V x j = rI T x j := fun x hx => (uV2 x (by simp <;> omega)).1
              by_cases hgh : g = h
              · subst hgh
                refine ⟨⟨?_, ?_⟩, ⟨z, by omega, ?_, ?_⟩, fun k hk => ?_⟩
                · rw [v77, if_pos rfl, vx _ (by omega), (uT _ (by simp <;> omega)).1, rI_wI_k (by decide), rI_wI_s]
                · rw [v77, if_pos rfl]
                  have : la = 0 ∨ la = 1 ∨ la = 2 := by omega
                  rcases this with rfl | rfl | rfl
                  · exact Or.inr (Or.inl rfl)
                  · exact Or.inr (Or.inr (Or.inl rfl))
                  · exact Or.inr (Or.inr (Or.inr rfl))
                · rw [vx _ (by omega), (uT _ (by simp <;> omega)).1, rI_wI_s]
                · rw [v78, if_pos rfl]
                · rw [vx _ (by omega), fT k hk, fV k hk]
              · obtain ⟨⟨a1, a2⟩, ⟨z', b1, b2, b3⟩, c⟩ := hs g hg
                have ex : ∀ x, x ≠ 16 + 2 * h → x ≠ 17 + 2 * h → x < 77 → ∀ j, rI V x j = rI S x j := fun x k1 k2 k3 => (hu x (by simp <;> omega)).1
                refine ⟨⟨?_, ?_⟩, ⟨z', b1, ?_, ?_⟩, fun k hk => ?_⟩
                · rw [v77, if_neg hgh, ex _ (by omega) (by omega) (by omega)]
                  exact a1
                · rw [v77, if_neg hgh]
                  exact a2
                · rw [ex _ (by omega) (by omega) (by omega)]
                  exact b2
                · rw [v78, if_neg hgh]
                  exact b3
                · rw [ex _ (by omega) (by omega) (by omega), v79 _ (by omega)]
                  exact c k hk
        · refine ⟨-14, S, S, ?_, ?_, hI⟩
          · unfold X10_sheet
            rw [shG, if_pos h1, laG, if_pos h2, if_pos h3, if_neg h4]
          · unfold X11_sheet
            rw [mshG, if_pos h1, mlaG, if_pos h2, if_pos h3, if_neg h4]
      · refine ⟨-1, S, S, ?_, ?_, hI⟩
        · unfold X10_sheet
          rw [shG, if_pos h1, laG, if_pos h2, if_neg h3]
        · unfold X11_sheet
          rw [mshG, if_pos h1, mlaG, if_pos h2, if_neg h3]
    · refine ⟨-1, S, S, ?_, ?_, hI⟩
      · unfold X10_sheet
        rw [shG, if_pos h1, laG, if_neg h2]
      · unfold X11_sheet
        rw [mshG, if_pos h1, mlaG, if_neg h2]
  · refine ⟨-1, S, S, ?_, ?_, hI⟩
    · unfold X10_sheet
      rw [shG, if_neg h1]
    · unfold X11_sheet
      rw [mshG, if_neg h1]
theorem lane_neg {S : St} {h : Nat} (hs : Sh S h) : (rI S (16 + 2 * h) 0 = -1 ∧ rI S 77 h = -1 ∧ ¬ (0 : Int32) ≤ rI S 77 h) ∨ (¬ rI S (16 + 2 * h) 0 = -1 ∧ (0 : Int32) ≤ rI S 77 h) := by
  obtain ⟨⟨a1, a2⟩, -⟩ := hs
  rw [a1]
  rcases a2 with e | e | e | e <;> rw [e]
  · exact Or.inl ⟨rfl, rfl, by decide⟩
  · exact Or.inr ⟨by decide, by decide⟩
  · exact Or.inr ⟨by decide, by decide⟩
  · exact Or.inr ⟨by decide, by decide⟩
theorem st_drop : ∀ (S : St) (a0 : Int32), Inv S → ∃ (r : Int32) (S1 : St) (S2 : St), X10_drop S a0 = some (r, S1) ∧ X11_drop S1 a0 = some (r, S2) ∧ Inv S2 := by
  intro S a hI
  have hs := hI.2.2.2.1
  by_cases h1 : 0 ≤ a.toInt ∧ a.toInt ≤ 3
  · obtain ⟨h, hh, rfl⟩ := i_nat (x := a) (n := 4) h1.1 (by omega)
    rcases lane_neg (hs h hh) with ⟨n1, n2, n3⟩ | ⟨n1, n3⟩
    · refine ⟨-11, S, S, ?_, ?_, hI⟩
      · unfold X10_drop
        rw [shG, if_pos h1, ldS_s h rfl hh]
        refine (bd (rfl : some (16 + 2 * h) = some (16 + 2 * h))).trans ?_
        refine (bd (ckS hh S)).trans ?_
        exact if_pos n1
      · unfold X11_drop
        rw [mshG, if_pos h1]
        refine (bd (ldA_s S 77 h rfl rfl (by show _ < 4; omega))).trans ?_
        exact if_neg n3
    · obtain ⟨⟨a1, a2⟩, ⟨z, b1, b2, b3⟩, c⟩ := hs h hh
      refine ⟨nI z, wI S (16 + 2 * h) 0 (-1), wI (wI S (16 + 2 * h) 0 (-1)) 77 h (-1), ?_, ?_, ?_⟩
      · unfold X10_drop
        rw [shG, if_pos h1, ldS_s h rfl hh]
        refine (bd (rfl : some (16 + 2 * h) = some (16 + 2 * h))).trans ?_
        refine (bd (ckS hh S)).trans ?_
        refine (if_neg n1).trans ?_
        refine (bd (rfl : some (16 + 2 * h) = some (16 + 2 * h))).trans ?_
        refine (bd (ckS hh S)).trans ?_
        have e : X7_empty S (16 + 2 * h) = some (nI z, wI S (16 + 2 * h) 0 (-1)) := by
          unfold X7_empty
          refine (bd (ckS hh S)).trans ?_
          refine (bd (rfl : stF S (16 + 2 * h) 0 (-1) = some _)).trans ?_
          refine (bd (ckS hh _)).trans ?_
          rw [rI_wI_k (by decide), b2]
        rw [e]
        rfl
      · unfold X11_drop
        rw [mshG, if_pos h1]
        refine (bd (ldA_s _ 77 h rfl rfl (by show _ < 4; omega))).trans ?_
        rw [rI_wI_a (by omega)]
        refine (if_pos n3).trans ?_
        refine (bd (stA_s _ 77 h _ rfl rfl (by show _ < 4; omega))).trans ?_
        refine (bd (ldA_s _ 78 h rfl rfl (by show _ < 4; omega))).trans ?_
        rw [rI_wI_a (by decide), rI_wI_a (by omega), b3]
      · have hu : Un [16 + 2 * h, 77] S (wI (wI S (16 + 2 * h) 0 (-1)) 77 h (-1)) := (Un.wI S _ _ _ (by simp)).trs (Un.wI _ _ _ _ (by simp))
        refine hI.s hu ?_ ?_
        · have : h = 0 ∨ h = 1 ∨ h = 2 ∨ h = 3 := by omega
          rcases this with rfl | rfl | rfl | rfl <;> decide
        · intro g hg
          by_cases hgh : g = h
          · subst hgh
            refine ⟨⟨?_, ?_⟩, ⟨z, b1, ?_, ?_⟩, fun k hk => ?_⟩
            · rw [rI_wI_a (by omega), rI_wI_s, rI_wI_s]
            · rw [rI_wI_s]
              exact Or.inl rfl
            · rw [rI_wI_a (by omega), rI_wI_k (by decide)]
              exact b2
            · rw [rI_wI_a (by decide), rI_wI_a (by omega)]
              exact b3
            · rw [rI_wI_a (by omega), rI_wI_a (by omega), rI_wI_a (by omega), rI_wI_a (by omega)]
              exact c k hk
          · obtain ⟨⟨a1, a2⟩, ⟨z', b1, b2, b3⟩, c⟩ := hs g hg
            refine ⟨⟨?_, ?_⟩, ⟨z', b1, ?_, ?_⟩, fun k hk => ?_⟩
            · rw [rI_wI_a (by omega), rI_wI_a (by omega), rI_wI_k hgh, rI_wI_a (by omega)]
              exact a1
            · rw [rI_wI_k hgh, rI_wI_a (by omega)]
              exact a2
            · rw [rI_wI_a (by omega), rI_wI_a (by omega)]
              exact b2
            · rw [rI_wI_a (by decide), rI_wI_a (by omega)]
              exact b3
            · rw [rI_wI_a (by omega), rI_wI_a (by omega), rI_wI_a (by omega), rI_wI_a (by omega)]
              exact c k hk
  · refine ⟨-1, S, S, ?_, ?_, hI⟩
    · unfold X10_drop
      rw [shG, if_neg h1]
    · unfold X11_drop
      rw [mshG, if_neg h1]
