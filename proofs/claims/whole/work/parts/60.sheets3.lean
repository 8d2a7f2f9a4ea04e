theorem addL (a b : Int32) : (a.toInt64 + b.toInt64).toInt = a.toInt + b.toInt := by
  have h1 := Int32.toInt_lt a
  have h2 := Int32.le_toInt a
  have h3 := Int32.toInt_lt b
  have h4 := Int32.le_toInt b
  rw [Int64.toInt_add, tI64, tI64]
  apply Int.bmod_eq_of_le <;> omega
theorem holds_ok {S : St} {h z : Nat} (hh : h < 4) (hz : z ≤ 40) (e : rI S (16 + 2 * h) 1 = nI z) (i n : Int32) : X7_holds S (16 + 2 * h) i n = some (if 0 ≤ i.toInt ∧ 0 ≤ n.toInt ∧ i.toInt + n.toInt ≤ z then 1 else 0) := by
  unfold X7_holds
  by_cases h1 : i < 0
  · have := (i_lt i 0 0).mp h1
    rw [if_pos h1, if_neg (by omega)]
  · have h1' : ¬ i.toInt < 0 := fun y => h1 ((i_lt i 0 0).mpr y)
    rw [if_neg h1]
    by_cases h2 : n < 0
    · have := (i_lt n 0 0).mp h2
      rw [if_pos h2, if_neg (by omega)]
    · have h2' : ¬ n.toInt < 0 := fun y => h2 ((i_lt n 0 0).mpr y)
      rw [if_neg h2]
      refine (bd (ckS hh S)).trans ?_
      rw [e]
      have hn1 := Int32.toInt_lt n
      have e2 : (nI z - n).toInt = (z : Int) - n.toInt := by
        rw [Int32.toInt_sub, nT (by omega)]
        apply Int.bmod_eq_of_le <;> omega
      by_cases h4 : nI z - n < i
      · have := (i_gt i (nI z - n) _ e2).mp h4
        rw [if_pos h4, if_neg (by omega)]
      · have h4' : ¬ (z : Int) - n.toInt < i.toInt := fun y => h4 ((i_gt i (nI z - n) _ e2).mpr y)
        rw [if_neg h4, if_pos (by omega)]
theorem finds_ok {S : St} {h z : Nat} (hh : h < 4) (hz : z ≤ 40) (e : rI S 78 h = nI z) (la i n : Int32) : X11_finds S (nI h) la i n = some (if (0 : Int32) ≤ rI S 77 h then (if rI S 77 h = la then (if 0 ≤ i.toInt ∧ i.toInt + n.toInt ≤ z then 0 else -13) else -12) else -11) := by
  unfold X11_finds
  refine (bd (ldA_s S 77 h rfl rfl (by show _ < 4; omega))).trans ?_
  by_cases h0 : (0 : Int32) ≤ rI S 77 h
  · rw [if_pos h0, if_pos h0]
    refine (bd (ldA_s S 77 h rfl rfl (by show _ < 4; omega))).trans ?_
    by_cases h1 : rI S 77 h = la
    · rw [if_pos h1, if_pos h1]
      by_cases h2 : i < 0
      · have := (i_lt i 0 0).mp h2
        rw [if_pos h2, if_neg (by omega)]
      · have h2' : ¬ i.toInt < 0 := fun y => h2 ((i_lt i 0 0).mpr y)
        rw [if_neg h2]
        refine (bd ((ldA_s S 78 h rfl rfl (by show _ < 4; omega)).trans (congrArg some e))).trans ?_
        have e3 : (lg_cmp (i.toInt64 + n.toInt64) (nI z).toInt64 ≤ 0) ↔ i.toInt + n.toInt ≤ z := by
          rw [lg_cmp_le, Int64.le_iff_toInt_le, addL, tI64, nT (by omega)]
        by_cases h3 : i.toInt + n.toInt ≤ z
        · rw [if_pos (e3.mpr h3), if_pos (by omega)]
        · rw [if_neg (fun y => h3 (e3.mp y)), if_neg (by omega)]
    · rw [if_neg h1, if_neg h1]
  · rw [if_neg h0, if_neg h0]
theorem refusal_ok {S : St} {h : Nat} (hh : h < 4) (hs : Sh S h) (la : Int32) : X7_refusal S (16 + 2 * h) la = some (if (0 : Int32) ≤ rI S 77 h then (if rI S 77 h = la then 0 else -12) else -11) := by
  unfold X7_refusal
  refine (bd (ckS hh S)).trans ?_
  have e := hs.1.1
  rcases lane_neg hs with ⟨n1, n2, n3⟩ | ⟨n1, n3⟩
  · rw [if_neg n3]
    exact if_pos n1
  · rw [if_pos n3]
    refine (if_neg n1).trans ?_
    refine (bd (ckS hh S)).trans ?_
    rw [e]
    exact some_if
theorem st_item : ∀ (S : St) (a0 : Int32) (a1 : Int32) (a2 : Int32) (a3 : Int32), Inv S → ∃ (r : Int32) (S1 : St) (S2 : St), X10_item S a0 a1 a2 a3 = some (r, S1) ∧ X11_item S1 a0 a1 a2 a3 = some (r, S2) ∧ Inv S2 := by
  intro S a b i v hI
  have hs := hI.2.2.2.1
  by_cases h1 : 0 ≤ a.toInt ∧ a.toInt ≤ 3
  · by_cases h2 : 0 ≤ b.toInt ∧ b.toInt ≤ 2
    · obtain ⟨h, hh, rfl⟩ := i_nat (x := a) (n := 4) h1.1 (by omega)
      have hsh := hs h hh
      obtain ⟨⟨a1, a2⟩, ⟨z, b1, b2, b3⟩, c⟩ := id hsh
      have eX : X10_item S (nI h) b i v = (X7_refusal S (16 + 2 * h) b).bind fun x11 => if x11 = 0 then ((X7_holds S (16 + 2 * h) i 1).bind fun x17 => if x17 = 0 then some (-13, S) else (X7_put S (16 + 2 * h) i v).bind fun (x23, S24) => some (x23, S24)) else some (x11, S) := by
        unfold X10_item
        rw [shG, if_pos h1, laG, if_pos h2, ldS_s h rfl hh]
        refine (bd (rfl : some (16 + 2 * h) = some (16 + 2 * h))).trans ?_
        refine (bd (ckS hh S)).trans ?_
        congr 1
        funext x
        split
        · refine (bd (rfl : some (16 + 2 * h) = some (16 + 2 * h))).trans ?_
          refine (bd (ckS hh S)).trans ?_
          congr 1
          funext x
          split
          · rfl
          · refine (bd (rfl : some (16 + 2 * h) = some (16 + 2 * h))).trans ?_
            exact bd (ckS hh S)
        · rfl
      have eM : ∀ T, rI T 78 h = nI z → (∀ j, rI T 77 j = rI S 77 j) → X11_item T (nI h) b i v = if (0 : Int32) ≤ rI S 77 h then (if rI S 77 h = b then (if 0 ≤ i.toInt ∧ i.toInt + 1 ≤ z then ((if b = 0 then some v.toInt8.toInt32 else if b = 1 then some v.toInt16.toInt32 else some v).bind fun x11 => (stA T 79 ((40 * nI h) + i) x11).bind fun S14 => some (1, S14)) else some (-13, T)) else some (-12, T)) else some (-11, T) := fun T hT h77 => by
        unfold X11_item
        rw [mshG, if_pos h1, mlaG, if_pos h2, finds_ok hh b1 hT b i 1, h77]
        have e1 : (1 : Int32).toInt = 1 := rfl
        rw [e1]
        by_cases k1 : (0 : Int32) ≤ rI S 77 h
        · rw [if_pos k1, if_pos k1]
          by_cases k2 : rI S 77 h = b
          · rw [if_pos k2, if_pos k2]
            by_cases k3 : 0 ≤ i.toInt ∧ i.toInt + 1 ≤ z
            · rw [if_pos k3, if_pos k3]
              rfl
            · rw [if_neg k3, if_neg k3]
              rfl
          · rw [if_neg k2, if_neg k2]
            rfl
        · rw [if_neg k1, if_neg k1]
          rfl
      rw [refusal_ok hh hsh b] at eX
      by_cases k1 : (0 : Int32) ≤ rI S 77 h
      · by_cases k2 : rI S 77 h = b
        · rw [if_pos k1, if_pos k2] at eX
          have eX : X10_item S (nI h) b i v = (X7_holds S (16 + 2 * h) i 1).bind fun x17 => if x17 = 0 then some (-13, S) else (X7_put S (16 + 2 * h) i v).bind fun (x23, S24) => some (x23, S24) := eX
          rw [holds_ok hh b1 b2 i 1] at eX
          have e1 : (1 : Int32).toInt = 1 := rfl
          rw [e1] at eX
          by_cases k3 : 0 ≤ i.toInt ∧ i.toInt + 1 ≤ z
          · rw [if_pos (by omega)] at eX
            obtain ⟨j, hj, rfl⟩ := i_nat (x := i) (n := 40) (by omega) (by omega)
            obtain ⟨w, hw⟩ : ∃ w, w = (if b = 0 then v.toInt8.toInt32 else if b = 1 then v.toInt16.toInt32 else v) := ⟨_, rfl⟩
            have ew : (if b = 0 then some v.toInt8.toInt32 else if b = 1 then some v.toInt16.toInt32 else some v) = some w := by
              rw [hw, some_if, some_if]
            have ex0 : rI S (16 + 2 * h) 0 = b := a1.trans k2
            have eP : X7_put S (16 + 2 * h) (nI j) v = some (1, wI S (17 + 2 * h) j w) := by
              unfold X7_put
              refine (bd (ckS hh S)).trans ?_
              refine (bd (ckS hh S)).trans ?_
              rw [ex0]
              have e5 : (if b = 0 then some v.toInt8.toInt32 else (ckO S (16 + 2 * h) 7).bind fun _ => if b = 1 then some v.toInt16.toInt32 else some v) = some w := by
                rw [← ew]
                split
                · rfl
                · exact bd (ckS hh S)
              refine (bd e5).trans ?_
              rw [show 16 + 2 * h + 1 = 17 + 2 * h by omega]
              obtain ⟨-, s1, s2, s3⟩ := sh_st hh S
              exact bd (stA_e s1 s3 rfl (by rw [s2]; exact hj))
            have uT : Un [17 + 2 * h] S (wI S (17 + 2 * h) j w) := Un.wI S _ _ _ (by simp)
            refine ⟨1, wI S (17 + 2 * h) j w, wI (wI S (17 + 2 * h) j w) 79 (40 * h + j) w, ?_, ?_, ?_⟩
            · rw [eX]
              show (X7_put S (16 + 2 * h) (nI j) v).bind _ = _
              rw [eP]
              rfl
            · rw [eM _ (by rw [rI_wI_a (by omega)]; exact b3) (fun j => rI_wI_a (by omega)), if_pos k1, if_pos k2, if_pos k3]
              refine (bd ew).trans ?_
              exact bd (stA_s _ 79 (40 * h + j) _ rfl (ix2' 40 h j) (by show _ < 160; omega))
            · have hu : Un [17 + 2 * h, 79] S (wI (wI S (17 + 2 * h) j w) 79 (40 * h + j) w) := (Un.wI S _ _ _ (by simp)).trs (Un.wI _ _ _ _ (by simp))
              refine hI.s hu ?_ ?_
              · have : h = 0 ∨ h = 1 ∨ h = 2 ∨ h = 3 := by omega
                rcases this with rfl | rfl | rfl | rfl <;> decide
              · intro g hg
                obtain ⟨⟨a1, a2⟩, ⟨z', c1, c2, c3⟩, c⟩ := hs g hg
                refine ⟨⟨?_, ?_⟩, ⟨z', c1, ?_, ?_⟩, fun k hk => ?_⟩
                · rw [rI_wI_a (by omega), rI_wI_a (by omega), rI_wI_a (by decide), rI_wI_a (by omega)]
                  exact a1
                · rw [rI_wI_a (by decide), rI_wI_a (by omega)]
                  exact a2
                · rw [rI_wI_a (by omega), rI_wI_a (by omega)]
                  exact c2
                · rw [rI_wI_a (by decide), rI_wI_a (by omega)]
                  exact c3
                · rw [rI_wI_a (by omega), rI_wI, rI_wI]
                  by_cases y : g = h ∧ k = j
                  · rw [if_pos (by omega), if_pos (by omega)]
                  · rw [if_neg (by omega), if_neg (by omega), rI_wI_a (by omega)]
                    exact c k hk
          · rw [if_neg (by omega)] at eX
            refine ⟨-13, S, S, eX, ?_, hI⟩
            rw [eM S b3 (fun _ => rfl), if_pos k1, if_pos k2, if_neg k3]
        · rw [if_pos k1, if_neg k2] at eX
          refine ⟨-12, S, S, eX, ?_, hI⟩
          rw [eM S b3 (fun _ => rfl), if_pos k1, if_neg k2]
      · rw [if_neg k1] at eX
        refine ⟨-11, S, S, eX, ?_, hI⟩
        rw [eM S b3 (fun _ => rfl), if_neg k1]
    · refine ⟨-1, S, S, ?_, ?_, hI⟩
      · unfold X10_item
        rw [shG, if_pos h1, laG, if_neg h2]
      · unfold X11_item
        rw [mshG, if_pos h1, mlaG, if_neg h2]
  · refine ⟨-1, S, S, ?_, ?_, hI⟩
    · unfold X10_item
      rw [shG, if_neg h1]
    · unfold X11_item
      rw [mshG, if_neg h1]
