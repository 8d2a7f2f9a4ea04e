/-! guards, and the calls that only set a number -/
theorem gd {α : Type} (a lo hi : Int32) (zl zh : Int) {X Y : α} (hlo : lo.toInt = zl := by decide) (hhi : hi.toInt = zh := by decide) : (if a < lo then X else if a ≤ hi then Y else X) = if zl ≤ a.toInt ∧ a.toInt ≤ zh then Y else X := by
  by_cases h1 : a < lo
  · have := (i_lt a lo zl hlo).mp h1
    rw [if_pos h1, if_neg (by omega)]
  · have h1' : ¬ a.toInt < zl := fun z => h1 ((i_lt a lo zl hlo).mpr z)
    rw [if_neg h1]
    by_cases h2 : a ≤ hi
    · have := (i_le a hi zh hhi).mp h2
      rw [if_pos h2, if_pos (by omega)]
    · have h2' : ¬ a.toInt ≤ zh := fun z => h2 ((i_le a hi zh hhi).mpr z)
      rw [if_neg h2, if_neg (by omega)]
theorem one0 {α : Type} {c : Prop} [Decidable c] {X Y : α} : (fun x : Int32 => if x = 0 then X else Y) (if c then 1 else 0) = if c then Y else X := by
  by_cases h : c
  · rw [if_pos h, if_pos h]
    rfl
  · rw [if_neg h, if_neg h]
    rfl
theorem md {α : Type} (S : St) (a : Int32) (lo hi : Int64) (zl zh : Int) {X Y : Option α} (hlo : lo.toInt = zl := by decide) (hhi : hi.toInt = zh := by decide) : ((X11_in S a.toInt64 lo hi).bind fun x => if x = 0 then X else Y) = if zl ≤ a.toInt ∧ a.toInt ≤ zh then Y else X := by
  rw [in32 S a lo hi zl zh hlo hhi]
  exact one0
theorem hasG {α : Type} {S : St} {A : Ch} (hx : HX S 1 A) (hn : A.n ≤ 8) (a : Int32) {X Y : Option α} : ((X6_has S a).bind fun x => if x = 0 then X else Y) = if 0 ≤ a.toInt ∧ a.toInt < A.n then Y else X := by
  rw [has_ok hx hn a]
  exact one0
theorem roomG {α : Type} {S : St} {A : Ch} (hm : HM S 61 0 62 0 A) (hn : A.n ≤ 8) (a : Int32) {X Y : Option α} : ((X11_isRoom S a).bind fun x => if x = 0 then X else Y) = if 0 ≤ a.toInt ∧ a.toInt < A.n then Y else X := by
  rw [isRoom_ok hm hn a]
  exact one0
def okL (L : List Nat) : Bool := L.all (fun x => decide (x ≠ 10) && decide (x ≠ 11) && decide (x ≠ 14) && decide (x ≠ 24) && decide (x ≠ 32) && decide (x ≠ 60) && decide (x ≠ 65) && (decide (x < 16) || decide (23 < x)) && (decide (x < 42) || decide (59 < x)) && (decide (x < 74) || decide (79 < x)))
theorem okL_not {L : List Nat} (h : okL L = true) {x : Nat} (hx : x = 10 ∨ x = 11 ∨ x = 14 ∨ x = 24 ∨ x = 32 ∨ x = 60 ∨ x = 65 ∨ (16 ≤ x ∧ x ≤ 23) ∨ (42 ≤ x ∧ x ≤ 59) ∨ (74 ≤ x ∧ x ≤ 79)) : x ∉ L := fun hm => by
  have := List.all_eq_true.mp h x hm
  simp only [Bool.and_eq_true, Bool.or_eq_true, decide_eq_true_eq] at this
  omega
/-- what a call that touches the choir and scratch rows alone must show -/
theorem Inv.a {S S2 : St} {L : List Nat} (h : Inv S) (hu : Un L S S2) (hL : okL L = true) {A : Ch} (hw : Wf A) (hx : HX S2 1 A) (hm : HM S2 61 0 62 0 A) : Inv S2 := by
  obtain ⟨-, ⟨i0, i1⟩, ht, hs, hr⟩ := h
  refine ⟨⟨A, hw, hx, hm⟩, ⟨i0.un hu (okL_not hL (by omega)) (okL_not hL (by omega)) (okL_not hL (by omega)) (okL_not hL (by omega)) (fun k hk => okL_not hL (by omega)), i1.un hu (okL_not hL (by omega)) (okL_not hL (by omega)) (okL_not hL (by omega)) (okL_not hL (by omega)) (fun k hk => okL_not hL (by omega))⟩, ht.un hu ((hu 11 (okL_not hL (by omega))).1 0) ((hu 60 (okL_not hL (by omega))).1 5) (okL_not hL (by omega)) (okL_not hL (by omega)), fun h hh => (hs h hh).un hu (okL_not hL (by omega)) (okL_not hL (by omega)) (okL_not hL (by omega)) (okL_not hL (by omega)) (okL_not hL (by omega)), ?_⟩
  unfold Rf
  rw [(hu 24 (okL_not hL (by omega))).2.2, (hu 24 (okL_not hL (by omega))).2.2, (hu 32 (okL_not hL (by omega))).2.2, (hu 32 (okL_not hL (by omega))).2.2]
  exact hr
/-- one place of the row is written: the rest stands -/
theorem HM.put {S S' : St} {a o la lo : Nat} {A : Ch} (h : HM S a o la lo A) (c : Nat) (e : ∀ j, j ≠ c → rI S' a j = rI S a j) :
    ((c ≠ o → rI S' a o = nI A.n) ∧ (c ≠ o + 128 → rI S' a (o + 128) = nI A.pace) ∧ (c ≠ o + 131 → rI S' a (o + 131) = nI A.most) ∧ (c ≠ o + 129 → rI S' a (o + 129) = nI A.fit) ∧ (c ≠ o + 130 → rI S' a (o + 130) = nI A.len) ∧ (c ≠ o + 132 → rI S' a (o + 132) = nI A.ln)) ∧
    (∀ r w, r < A.n → w < 6 → c ≠ o + 8 + 6 * r + w → rI S' a (o + 8 + 6 * r + w) = nI (A.val r w)) ∧ (∀ r w, A.n ≤ r → r < 8 → 3 ≤ w → w < 6 → c ≠ o + 8 + 6 * r + w → rI S' a (o + 8 + 6 * r + w) = 0) ∧
    (∀ f t, f < 8 → t < 8 → c ≠ o + 64 + 8 * f + t → rI S' a (o + 64 + 8 * f + t) = nI (A.wire f t)) ∧ (∀ d f t, d < 7 → f < 8 → t < 8 → c ≠ o + 200 + 64 * d + 8 * f + t → rI S' a (o + 200 + 64 * d + 8 * f + t) = if A.lo d f t then 1 else 0) ∧
    (∀ k, k < A.len → c ≠ o + 136 + k → rI S' a (o + 136 + k) = nI (A.snd k)) := by
  obtain ⟨⟨h1, h2, h3, h4, h5, h6⟩, h7, h8, h9, h10, h11, -⟩ := h
  refine ⟨⟨fun z => (e _ z.symm).trans h1, fun z => (e _ z.symm).trans h2, fun z => (e _ z.symm).trans h3, fun z => (e _ z.symm).trans h4, fun z => (e _ z.symm).trans h5, fun z => (e _ z.symm).trans h6⟩, fun r w g1 g2 z => (e _ z.symm).trans (h7 r w g1 g2), fun r w g1 g2 g3 g4 z => (e _ z.symm).trans (h8 r w g1 g2 g3 g4), fun r w g1 g2 z => (e _ z.symm).trans (h9 r w g1 g2), fun d r w g1 g2 g3 z => (e _ z.symm).trans (h10 d r w g1 g2 g3), fun k g z => (e _ z.symm).trans (h11 k g)⟩
theorem st_pace : ∀ (S : St) (a0 : Int32), Inv S → ∃ (r : Int32) (S1 : St) (S2 : St), X10_pace S a0 = some (r, S1) ∧ X11_pace S1 a0 = some (r, S2) ∧ Inv S2 := by
  intro S a hI
  obtain ⟨⟨A, hw, hx, hm⟩, -⟩ := id hI
  by_cases h : 1 ≤ a.toInt ∧ a.toInt ≤ 2000
  · obtain ⟨k, hk, rfl⟩ := i_nat (x := a) (n := 2001) (by omega) (by omega)
    rw [nT (by omega)] at h
    refine ⟨nI A.pace, wI S 2 1 (nI k), wI (wI S 2 1 (nI k)) 61 128 (nI k), ?_, ?_, ?_⟩
    · unfold X10_pace
      rw [gd (nI k) 1 2000 1 2000, if_pos (by rw [nT (by omega)]; omega)]
      show some (rI S 2 1, wI S 2 1 (nI k)) = _
      rw [show rI S 2 1 = nI A.pace from hx.1.2.1]
    · unfold X11_pace
      rw [md (wI S 2 1 (nI k)) (nI k) 1 2000 1 2000, if_pos (by rw [nT (by omega)]; omega)]
      refine (bd (ldA_s _ 61 128 rfl rfl (by decide))).trans ?_
      refine (bd (stA_s _ 61 128 _ rfl rfl (by decide))).trans ?_
      show some (rI S 61 128, _) = _
      rw [show rI S 61 128 = nI A.pace from hm.1.2.1]
    · have hu : Un [2, 61] S (wI (wI S 2 1 (nI k)) 61 128 (nI k)) := (Un.wI S 2 1 _ (by simp)).trs (Un.wI _ 61 128 _ (by simp))
      have hn := hw.1
      refine hI.a hu (by decide) (A := (A.n, A.val, A.wire, A.lo, k, A.fit, A.most, A.len, A.snd, A.ln, A.los)) ?_ ?_ ?_
      · obtain ⟨w1, w2, w3, w4, w5, w6, w7⟩ := hw
        exact ⟨w1, w2, w3, w4, ⟨by show 1 ≤ k; omega, by show k ≤ 2000; omega⟩, w6, w7⟩
      · obtain ⟨⟨h1, h2, h3, h4, h5, h6⟩, h7, h8, h9, h10, h11⟩ := hx
        exact ⟨⟨h1, rfl, h3, h4, h5, h6⟩, h7, h8, h9, h10, h11⟩
      · have e : ∀ j, j ≠ 128 → rI (wI (wI S 2 1 (nI k)) 61 128 (nI k)) 61 j = rI S 61 j := fun j hj => by
          rw [rI_wI_k hj, rI_wI_a (by decide)]
        obtain ⟨⟨p0, p128, p131, p129, p130, p132⟩, pv, pz, pw, pl, ps⟩ := hm.put 128 e
        have hl := hw.2.2.2.2.2.2.2.1
        exact ⟨⟨p0 (by omega), rI_wI_s _ _ _ _, p131 (by omega), p129 (by omega), p130 (by omega), p132 (by omega)⟩, fun r w hr hw' => pv r w hr hw' (by have hr : r < A.n := hr; omega), fun r w g1 g2 g3 g4 => pz r w g1 g2 g3 g4 (by omega), fun f t hf ht => pw f t hf ht (by omega), fun d f t hd hf ht => pl d f t hd hf ht (by omega), fun j hj => ps j hj (by omega), hm.2.2.2.2.2.2⟩
  · refine ⟨-1, S, S, ?_, ?_, hI⟩
    · unfold X10_pace
      rw [gd a 1 2000 1 2000, if_neg h]
    · unfold X11_pace
      rw [md S a 1 2000 1 2000, if_neg h]
theorem st_most : ∀ (S : St) (a0 : Int32), Inv S → ∃ (r : Int32) (S1 : St) (S2 : St), X10_most S a0 = some (r, S1) ∧ X11_most S1 a0 = some (r, S2) ∧ Inv S2 := by
  intro S a hI
  obtain ⟨⟨A, hw, hx, hm⟩, -⟩ := id hI
  by_cases h : 1 ≤ a.toInt ∧ a.toInt ≤ 7
  · obtain ⟨k, hk, rfl⟩ := i_nat (x := a) (n := 8) (by omega) (by omega)
    rw [nT (by omega)] at h
    refine ⟨nI A.most, wI S 2 2 (nI k), wI (wI S 2 2 (nI k)) 61 131 (nI k), ?_, ?_, ?_⟩
    · unfold X10_most
      rw [gd (nI k) 1 7 1 7, if_pos (by rw [nT (by omega)]; omega)]
      show some (rI S 2 2, wI S 2 2 (nI k)) = _
      rw [show rI S 2 2 = nI A.most from hx.1.2.2.1]
    · unfold X11_most
      rw [md (wI S 2 2 (nI k)) (nI k) 1 7 1 7, if_pos (by rw [nT (by omega)]; omega)]
      refine (bd (ldA_s _ 61 131 rfl rfl (by decide))).trans ?_
      refine (bd (stA_s _ 61 131 _ rfl rfl (by decide))).trans ?_
      show some (rI S 61 131, _) = _
      rw [show rI S 61 131 = nI A.most from hm.1.2.2.1]
    · have hu : Un [2, 61] S (wI (wI S 2 2 (nI k)) 61 131 (nI k)) := (Un.wI S 2 2 _ (by simp)).trs (Un.wI _ 61 131 _ (by simp))
      have hn := hw.1
      refine hI.a hu (by decide) (A := (A.n, A.val, A.wire, A.lo, A.pace, A.fit, k, A.len, A.snd, A.ln, A.los)) ?_ ?_ ?_
      · obtain ⟨w1, w2, w3, w4, w5, w6, w7⟩ := hw
        exact ⟨w1, w2, w3, w4, w5, w6, ⟨by show 1 ≤ k; omega, by show k ≤ 7; omega⟩, w7.2⟩
      · obtain ⟨⟨h1, h2, h3, h4, h5, h6⟩, h7, h8, h9, h10, h11⟩ := hx
        exact ⟨⟨h1, h2, rfl, h4, h5, h6⟩, h7, h8, h9, h10, h11⟩
      · have e : ∀ j, j ≠ 131 → rI (wI (wI S 2 2 (nI k)) 61 131 (nI k)) 61 j = rI S 61 j := fun j hj => by
          rw [rI_wI_k hj, rI_wI_a (by decide)]
        obtain ⟨⟨p0, p128, p131, p129, p130, p132⟩, pv, pz, pw, pl, ps⟩ := hm.put 131 e
        have hl := hw.2.2.2.2.2.2.2.1
        exact ⟨⟨p0 (by omega), p128 (by omega), rI_wI_s _ _ _ _, p129 (by omega), p130 (by omega), p132 (by omega)⟩, fun r w hr hw' => pv r w hr hw' (by have hr : r < A.n := hr; omega), fun r w g1 g2 g3 g4 => pz r w g1 g2 g3 g4 (by omega), fun f t hf ht => pw f t hf ht (by omega), fun d f t hd hf ht => pl d f t hd hf ht (by omega), fun j hj => ps j hj (by omega), hm.2.2.2.2.2.2⟩
  · refine ⟨-1, S, S, ?_, ?_, hI⟩
    · unfold X10_most
      rw [gd a 1 7 1 7, if_neg h]
    · unfold X11_most
      rw [md S a 1 7 1 7, if_neg h]
theorem st_fit : ∀ (S : St) (a0 : Int32), Inv S → ∃ (r : Int32) (S1 : St) (S2 : St), X10_fit S a0 = some (r, S1) ∧ X11_fit S1 a0 = some (r, S2) ∧ Inv S2 := by
  intro S a hI
  obtain ⟨⟨A, hw, hx, hm⟩, -⟩ := id hI
  by_cases h : 0 ≤ a.toInt ∧ a.toInt ≤ 127
  · obtain ⟨k, hk, rfl⟩ := i_nat (x := a) (n := 128) (by omega) (by omega)
    rw [nT (by omega)] at h
    refine ⟨nI A.fit, wI S 1 3 (nI k), wI (wI S 1 3 (nI k)) 61 129 (nI k), ?_, ?_, ?_⟩
    · unfold X10_fit
      rw [gd (nI k) 0 127 0 127, if_pos (by rw [nT (by omega)]; omega)]
      show some (rI S 1 3, wI S 1 3 (nI k)) = _
      rw [show rI S 1 3 = nI A.fit from hx.1.2.2.2.1]
    · unfold X11_fit
      rw [md (wI S 1 3 (nI k)) (nI k) 0 127 0 127, if_pos (by rw [nT (by omega)]; omega)]
      refine (bd (ldA_s _ 61 129 rfl rfl (by decide))).trans ?_
      refine (bd (stA_s _ 61 129 _ rfl rfl (by decide))).trans ?_
      show some (rI S 61 129, _) = _
      rw [show rI S 61 129 = nI A.fit from hm.1.2.2.2.1]
    · have hu : Un [1, 61] S (wI (wI S 1 3 (nI k)) 61 129 (nI k)) := (Un.wI S 1 3 _ (by simp)).trs (Un.wI _ 61 129 _ (by simp))
      have hn := hw.1
      refine hI.a hu (by decide) (A := (A.n, A.val, A.wire, A.lo, A.pace, k, A.most, A.len, A.snd, A.ln, A.los)) ?_ ?_ ?_
      · obtain ⟨w1, w2, w3, w4, w5, w6, w7⟩ := hw
        exact ⟨w1, w2, w3, w4, w5, (by show k ≤ 127; omega), w7⟩
      · obtain ⟨⟨h1, h2, h3, h4, h5, h6⟩, h7, h8, h9, h10, h11⟩ := hx
        exact ⟨⟨h1, h2, h3, rfl, h5, h6⟩, h7, h8, h9, h10, h11⟩
      · have e : ∀ j, j ≠ 129 → rI (wI (wI S 1 3 (nI k)) 61 129 (nI k)) 61 j = rI S 61 j := fun j hj => by
          rw [rI_wI_k hj, rI_wI_a (by decide)]
        obtain ⟨⟨p0, p128, p131, p129, p130, p132⟩, pv, pz, pw, pl, ps⟩ := hm.put 129 e
        have hl := hw.2.2.2.2.2.2.2.1
        exact ⟨⟨p0 (by omega), p128 (by omega), p131 (by omega), rI_wI_s _ _ _ _, p130 (by omega), p132 (by omega)⟩, fun r w hr hw' => pv r w hr hw' (by have hr : r < A.n := hr; omega), fun r w g1 g2 g3 g4 => pz r w g1 g2 g3 g4 (by omega), fun f t hf ht => pw f t hf ht (by omega), fun d f t hd hf ht => pl d f t hd hf ht (by omega), fun j hj => ps j hj (by omega), hm.2.2.2.2.2.2⟩
  · refine ⟨-1, S, S, ?_, ?_, hI⟩
    · unfold X10_fit
      rw [gd a 0 127 0 127, if_neg h]
    · unfold X11_fit
      rw [md S a 0 127 0 127, if_neg h]
