theorem HM.cp {S S' : St} {a o la lo a' o' la' lo' : Nat} {A : Ch} (h : HM S a o la lo A) (hw : Wf A) (e : ∀ j, j < 648 → rI S' a' (o' + j) = rI S a (o + j)) (f : ∀ j, j < 8 → rJ S' la' (lo' + j) = rJ S la (lo + j)) : HM S' a' o' la' lo' A := by
  obtain ⟨⟨g1, g2, g3, g4, g5, g6⟩, g7, g8, g9, g10, g11, g12⟩ := h
  have hn := hw.1
  have hl := hw.2.2.2.2.2.2.2.1
  have hln : A.ln ≤ 8 := hw.2.2.2.2.2.2.2.2.2.1
  refine ⟨⟨(e 0 (by omega)).trans g1, (e 128 (by omega)).trans g2, (e 131 (by omega)).trans g3, (e 129 (by omega)).trans g4, (e 130 (by omega)).trans g5, (e 132 (by omega)).trans g6⟩, ?_, ?_, ?_, ?_, ?_, ?_⟩
  · intro r w hr hw'
    have hr : r < A.n := hr
    have := e (8 + 6 * r + w) (by omega)
    rw [show o' + (8 + 6 * r + w) = o' + 8 + 6 * r + w by omega, show o + (8 + 6 * r + w) = o + 8 + 6 * r + w by omega] at this
    exact this.trans (g7 r w hr hw')
  · intro r w h1 h2 h3 h4
    have := e (8 + 6 * r + w) (by omega)
    rw [show o' + (8 + 6 * r + w) = o' + 8 + 6 * r + w by omega, show o + (8 + 6 * r + w) = o + 8 + 6 * r + w by omega] at this
    exact this.trans (g8 r w h1 h2 h3 h4)
  · intro f t hf ht
    have := e (64 + 8 * f + t) (by omega)
    rw [show o' + (64 + 8 * f + t) = o' + 64 + 8 * f + t by omega, show o + (64 + 8 * f + t) = o + 64 + 8 * f + t by omega] at this
    exact this.trans (g9 f t hf ht)
  · intro d f t hd hf ht
    have := e (200 + 64 * d + 8 * f + t) (by omega)
    rw [show o' + (200 + 64 * d + 8 * f + t) = o' + 200 + 64 * d + 8 * f + t by omega, show o + (200 + 64 * d + 8 * f + t) = o + 200 + 64 * d + 8 * f + t by omega] at this
    exact this.trans (g10 d f t hd hf ht)
  · intro k hk
    have hk : k < A.len := hk
    have := e (136 + k) (by omega)
    rw [show o' + (136 + k) = o' + 136 + k by omega, show o + (136 + k) = o + 136 + k by omega] at this
    exact this.trans (g11 k hk)
  · intro k hk
    have hk : k < A.ln := hk
    exact (f k (by omega)).trans (g12 k hk)
theorem stZ_s (S : St) (k : Nat) (v : Int32) (hk : k < 2) : stZ S 76 (nI k) v = some (wI S 76 k (vp_nar .boolean v)) := by
  unfold stZ
  rw [if_pos ⟨rfl, in_sid S rfl, inB_nI (n := 2) hk (by decide)⟩, nI_clamp (by omega)]
theorem ldZ_s (S : St) (k : Nat) (hk : k < 2) : ldZ S 76 (nI k) = some (rI S 76 k) := by
  unfold ldZ
  rw [if_pos ⟨rfl, in_sid S rfl, inB_nI (n := 2) hk (by decide)⟩, nI_clamp (by omega)]
theorem ldM_s (S : St) (k : Nat) (hk : k < 2) : ldM S (nI k) = some (rR S 10 k) := by
  unfold ldM
  rw [if_pos (inB_nI (n := 2) hk (by decide)), nI_clamp (by omega)]
theorem im1 (S : St) {n : Nat} (hn : n < 2) : ∃ T, X11_image_L14 (nI n) FU 0 S = some T ∧ Un [74] S T ∧ ∀ x, rI T 74 x = if 648 * n ≤ x ∧ x < 648 * n + 648 then rI S 61 (x - 648 * n) else rI S 74 x := by
  obtain ⟨T, hT, q⟩ := forG (fun m k (s : St) => X11_image_L14 (nI n) m (nI k) s) 648 (fun k s => Un [74] S s ∧ ∀ x, rI s 74 x = if 648 * n ≤ x ∧ x < 648 * n + k then rI S 61 (x - 648 * n) else rI S 74 x) (fun s => Un [74] S s ∧ ∀ x, rI s 74 x = if 648 * n ≤ x ∧ x < 648 * n + 648 then rI S 61 (x - 648 * n) else rI S 74 x) (fun m s hp => ⟨s, rfl, hp⟩) (fun m k s hk hp => by
    obtain ⟨p1, p2⟩ := hp
    right
    refine ⟨wI s 74 (648 * n + k) (rI S 61 k), ?_, p1.trs (Un.wI _ _ _ _ (by simp)), fun x => ?_⟩
    · show X11_image_L14 (nI n) (m + 1) (nI k) s = X11_image_L14 (nI n) m (nI (k + 1)) _
      refine (if_neg (nI_ge (b := 648) hk (by decide))).trans ?_
      refine (bd ((ldA_s s 61 k rfl rfl (by show _ < 648; omega)).trans (congrArg some ((p1 61 (by decide)).1 k)))).trans ?_
      refine (bd (stA_s s 74 (648 * n + k) _ rfl (ix2' 648 n k) (by show _ < 1296; omega))).trans ?_
      rw [nI_1]
    · rw [rI_wI]
      by_cases hx2 : x = 648 * n + k
      · rw [if_pos ⟨rfl, hx2⟩, if_pos (by omega), hx2, show 648 * n + k - 648 * n = k by omega]
      · rw [if_neg (fun z => hx2 z.2), p2 x]
        by_cases hy : 648 * n ≤ x ∧ x < 648 * n + k
        · rw [if_pos hy, if_pos (by omega)]
        · rw [if_neg hy, if_neg (by omega)]) 648 FU 0 S (by omega) (FU_lt (by omega)) ⟨Un.rf _ _, fun x => by rw [if_neg (by omega)]⟩
  exact ⟨T, hT, q⟩
theorem im2 (S : St) {n : Nat} (hn : n < 2) : ∃ T, X11_image_L47 (nI n) FU 0 S = some T ∧ Un [75] S T ∧ ∀ x, rJ T 75 x = if 8 * n ≤ x ∧ x < 8 * n + 8 then rJ S 62 (x - 8 * n) else rJ S 75 x := by
  obtain ⟨T, hT, q⟩ := forG (fun m k (s : St) => X11_image_L47 (nI n) m (nI k) s) 8 (fun k s => Un [75] S s ∧ ∀ x, rJ s 75 x = if 8 * n ≤ x ∧ x < 8 * n + k then rJ S 62 (x - 8 * n) else rJ S 75 x) (fun s => Un [75] S s ∧ ∀ x, rJ s 75 x = if 8 * n ≤ x ∧ x < 8 * n + 8 then rJ S 62 (x - 8 * n) else rJ S 75 x) (fun m s hp => ⟨s, rfl, hp⟩) (fun m k s hk hp => by
    obtain ⟨p1, p2⟩ := hp
    right
    refine ⟨wJ s 75 (8 * n + k) (rJ S 62 k), ?_, p1.trs (Un.wJ _ _ _ _ (by simp)), fun x => ?_⟩
    · show X11_image_L47 (nI n) (m + 1) (nI k) s = X11_image_L47 (nI n) m (nI (k + 1)) _
      refine (if_neg (nI_ge (b := 8) hk (by decide))).trans ?_
      refine (bd ((ldL_s s 62 k rfl rfl (by show _ < 8; omega)).trans (congrArg some ((p1 62 (by decide)).2.1 k)))).trans ?_
      refine (bd (stL_s s 75 (8 * n + k) _ rfl (ix2' 8 n k) (by show _ < 16; omega))).trans ?_
      rw [nI_1]
    · rw [rJ_wJ]
      by_cases hx2 : x = 8 * n + k
      · rw [if_pos ⟨rfl, hx2⟩, if_pos (by omega), hx2, show 8 * n + k - 8 * n = k by omega]
      · rw [if_neg (fun z => hx2 z.2), p2 x]
        by_cases hy : 8 * n ≤ x ∧ x < 8 * n + k
        · rw [if_pos hy, if_pos (by omega)]
        · rw [if_neg hy, if_neg (by omega)]) 8 FU 0 S (by omega) (FU_lt (by omega)) ⟨Un.rf _ _, fun x => by rw [if_neg (by omega)]⟩
  exact ⟨T, hT, q⟩
theorem rs1 (S : St) {n : Nat} (hn : n < 2) : ∃ T, X11_restore_L26 (nI n) FU 0 S = some T ∧ Un [61] S T ∧ ∀ x, rI T 61 x = if x < 648 then rI S 74 (648 * n + x) else rI S 61 x := by
  obtain ⟨T, hT, q⟩ := forG (fun m k (s : St) => X11_restore_L26 (nI n) m (nI k) s) 648 (fun k s => Un [61] S s ∧ ∀ x, rI s 61 x = if x < k then rI S 74 (648 * n + x) else rI S 61 x) (fun s => Un [61] S s ∧ ∀ x, rI s 61 x = if x < 648 then rI S 74 (648 * n + x) else rI S 61 x) (fun m s hp => ⟨s, rfl, hp⟩) (fun m k s hk hp => by
    obtain ⟨p1, p2⟩ := hp
    right
    refine ⟨wI s 61 k (rI S 74 (648 * n + k)), ?_, p1.trs (Un.wI _ _ _ _ (by simp)), fun x => ?_⟩
    · show X11_restore_L26 (nI n) (m + 1) (nI k) s = X11_restore_L26 (nI n) m (nI (k + 1)) _
      refine (if_neg (nI_ge (b := 648) hk (by decide))).trans ?_
      refine (bd ((ldA_s s 74 (648 * n + k) rfl (ix2' 648 n k) (by show _ < 1296; omega)).trans (congrArg some ((p1 74 (by decide)).1 _)))).trans ?_
      refine (bd (stA_s s 61 k _ rfl rfl (by show _ < 648; omega))).trans ?_
      rw [nI_1]
    · rw [rI_wI]
      by_cases hx2 : x = k
      · rw [if_pos ⟨rfl, hx2⟩, if_pos (by omega), hx2]
      · rw [if_neg (fun z => hx2 z.2), p2 x]
        by_cases hy : x < k
        · rw [if_pos hy, if_pos (by omega)]
        · rw [if_neg hy, if_neg (by omega)]) 648 FU 0 S (by omega) (FU_lt (by omega)) ⟨Un.rf _ _, fun x => by rw [if_neg (by omega)]⟩
  exact ⟨T, hT, q⟩
theorem rs2 (S : St) {n : Nat} (hn : n < 2) : ∃ T, X11_restore_L59 (nI n) FU 0 S = some T ∧ Un [62] S T ∧ ∀ x, rJ T 62 x = if x < 8 then rJ S 75 (8 * n + x) else rJ S 62 x := by
  obtain ⟨T, hT, q⟩ := forG (fun m k (s : St) => X11_restore_L59 (nI n) m (nI k) s) 8 (fun k s => Un [62] S s ∧ ∀ x, rJ s 62 x = if x < k then rJ S 75 (8 * n + x) else rJ S 62 x) (fun s => Un [62] S s ∧ ∀ x, rJ s 62 x = if x < 8 then rJ S 75 (8 * n + x) else rJ S 62 x) (fun m s hp => ⟨s, rfl, hp⟩) (fun m k s hk hp => by
    obtain ⟨p1, p2⟩ := hp
    right
    refine ⟨wJ s 62 k (rJ S 75 (8 * n + k)), ?_, p1.trs (Un.wJ _ _ _ _ (by simp)), fun x => ?_⟩
    · show X11_restore_L59 (nI n) (m + 1) (nI k) s = X11_restore_L59 (nI n) m (nI (k + 1)) _
      refine (if_neg (nI_ge (b := 8) hk (by decide))).trans ?_
      refine (bd ((ldL_s s 75 (8 * n + k) rfl (ix2' 8 n k) (by show _ < 16; omega)).trans (congrArg some ((p1 75 (by decide)).2.1 _)))).trans ?_
      refine (bd (stL_s s 62 k _ rfl rfl (by show _ < 8; omega))).trans ?_
      rw [nI_1]
    · rw [rJ_wJ]
      by_cases hx2 : x = k
      · rw [if_pos ⟨rfl, hx2⟩, if_pos (by omega), hx2]
      · rw [if_neg (fun z => hx2 z.2), p2 x]
        by_cases hy : x < k
        · rw [if_pos hy, if_pos (by omega)]
        · rw [if_neg hy, if_neg (by omega)]) 8 FU 0 S (by omega) (FU_lt (by omega)) ⟨Un.rf _ _, fun x => by rw [if_neg (by omega)]⟩
  exact ⟨T, hT, q⟩
theorem gd3 {α : Type} (a : Int32) {X Y : α} : (if a < 0 then X else if a < 2 then Y else X) = if 0 ≤ a.toInt ∧ a.toInt ≤ 1 then Y else X := by
  by_cases h1 : a < 0
  · have := (i_lt a 0 0).mp h1
    rw [if_pos h1, if_neg (by omega)]
  · have h1' : ¬ a.toInt < 0 := fun z => h1 ((i_lt a 0 0).mpr z)
    rw [if_neg h1]
    by_cases h2 : a < 2
    · have := (i_lt a 2 2).mp h2
      rw [if_pos h2, if_pos (by omega)]
    · have h2' : ¬ a.toInt < 2 := fun z => h2 ((i_lt a 2 2).mpr z)
      rw [if_neg h2, if_neg (by omega)]
theorem st_restore : ∀ (S : St) (a0 : Int32), Inv S → ∃ (r : Int32) (S1 : St) (S2 : St), X10_restore S a0 = some (r, S1) ∧ X11_restore S1 a0 = some (r, S2) ∧ Inv S2 := by
  intro S a hI
  obtain ⟨⟨A, hw, hx, hm⟩, ⟨j0, j1⟩, ht, hs, hr⟩ := id hI
  have eX : X10_restore S a = if 0 ≤ a.toInt ∧ a.toInt ≤ 1 then ((ldM S a).bind fun y => if y = 0 then some (-4, S) else (X1_take S 1 y).bind fun S1 => some (1, S1)) else some (-1, S) := by
    unfold X10_restore
    exact gd3 a
  have eM : ∀ T, X11_restore T a = if 0 ≤ a.toInt ∧ a.toInt ≤ 1 then ((ldZ T 76 a).bind fun x4 => if x4 = 0 then some (-4, T) else (X11_restore_L26 a FU 0 T).bind fun S12 => (X11_restore_L59 a FU 0 S12).bind fun S19 => some (1, S19)) else some (-1, T) := fun T => by
    unfold X11_restore
    rw [md T a 0 1 0 1]
  by_cases h : 0 ≤ a.toInt ∧ a.toInt ≤ 1
  · obtain ⟨n, hn, rfl⟩ := i_nat (x := a) (n := 2) (by omega) (by omega)
    have hj : Img S n := by
      have : n = 0 ∨ n = 1 := by omega
      rcases this with rfl | rfl
      · exact j0
      · exact j1
    rw [if_pos h, ldM_s S n hn] at eX
    rcases hj with ⟨y1, y2⟩ | ⟨y1, y2, B, bw, bx, bm⟩
    · refine ⟨-4, S, S, ?_, ?_, hI⟩
      · rw [eX, y1]
        rfl
      · rw [eM S, if_pos h, ldZ_s S n hn, y2]
        rfl
    · have eX : X10_restore S (nI n) = if rR S 10 n = 0 then some (-4, S) else (X1_take S 1 (rR S 10 n)).bind fun S1 => some (1, S1) := eX
      rw [y1, if_neg (by omega)] at eX
      obtain ⟨T, t1, t2, t3⟩ := take_ok (S := S) (p := 1) (q := 42 + 9 * n) (by omega) (by omega) (blk1 S) (blkI S hn (by omega)) bw bx
      rw [t1] at eX
      obtain ⟨U, u1, u2, u3⟩ := rs1 T hn
      obtain ⟨V, v1, v2, v3⟩ := rs2 U hn
      refine ⟨1, T, V, eX, ?_, ?_⟩
      · rw [eM T, if_pos h, ldZ_s T n hn, (t2 76 (by decide)).1, y2]
        show (X11_restore_L26 (nI n) FU 0 T).bind _ = _
        rw [u1]
        show (X11_restore_L59 (nI n) FU 0 U).bind _ = _
        rw [v1]
        rfl
      · have hu : Un (List.range' 1 9 ++ [61, 62]) S V := (t2.mono (fun x hx => List.mem_append_left _ hx)).trs ((u2.mono (fun x hx => List.mem_append_right _ (by simp at hx ⊢; omega))).trs (v2.mono (fun x hx => List.mem_append_right _ (by simp at hx ⊢; omega))))
        have huv : Un [61, 62] T V := (u2.mono (by simp)).trs (v2.mono (by simp))
        refine hI.g hu (by decide) bw (t3.un huv (fun k hk => by simp <;> omega)) ?_ (ht.un hu ((hu 11 (by decide)).1 0) ((hu 60 (by decide)).1 5) (by decide) (by decide)) (hr.un hu (by decide) (by decide))
        refine bm.cp bw (fun j hj => ?_) (fun j hj => ?_)
        · rw [Nat.zero_add, (v2 61 (by decide)).1, u3, if_pos hj, (t2 74 (by decide)).1]
        · rw [Nat.zero_add, v3, if_pos hj, (u2 75 (by decide)).2.1, (t2 75 (by decide)).2.1]
  · exact ⟨-1, S, S, by rw [eX, if_neg h], by rw [eM S, if_neg h], hI⟩
theorem newI_un (S : St) (n : Nat) : (∀ x, ¬ (42 + 9 * n ≤ x ∧ x < 51 + 9 * n) → (∀ j, rI (newI S n) x j = rI S x j) ∧ (∀ j, rJ (newI S n) x j = rJ S x j)) ∧ (∀ x j, rR (newI S n) x j = if x = 10 ∧ j = n then 42 + 9 * n else rR S x j) := by
  refine ⟨fun x hx => ⟨fun j => ?_, fun j => ?_⟩, fun x j => rfl⟩
  · show (if 42 + 9 * n ≤ x ∧ x < 51 + 9 * n then _ else S.1 x j) = S.1 x j
    rw [if_neg hx]
  · show (if 42 + 9 * n ≤ x ∧ x < 51 + 9 * n then _ else S.2.1 x j) = S.2.1 x j
    rw [if_neg hx]
theorem st_image : ∀ (S : St) (a0 : Int32), Inv S → ∃ (r : Int32) (S1 : St) (S2 : St), X10_image S a0 = some (r, S1) ∧ X11_image S1 a0 = some (r, S2) ∧ Inv S2 := by
  intro S a hI
  obtain ⟨⟨A, hw, hx, hm⟩, ⟨j0, j1⟩, ht, hs, hr⟩ := id hI
  have eX : X10_image S a = if 0 ≤ a.toInt ∧ a.toInt ≤ 1 then ((ldM S a).bind fun y => (if y = 0 then (if okR S = true then X1_take (newI S a.toNatClampNeg) (42 + 9 * a.toNatClampNeg) 1 else none) else (ckO S y 1).bind fun _ => X1_take S y 1).bind fun S1 => some (1, S1)) else some (-1, S) := by
    unfold X10_image
    exact gd3 a
  have eM : ∀ T, X11_image T a = if 0 ≤ a.toInt ∧ a.toInt ≤ 1 then ((X11_image_L14 a FU 0 T).bind fun S9 => (X11_image_L47 a FU 0 S9).bind fun S16 => (stZ S16 76 a 1).bind fun S18 => some (1, S18)) else some (-1, T) := fun T => by
    unfold X11_image
    rw [md T a 0 1 0 1]
  by_cases h : 0 ≤ a.toInt ∧ a.toInt ≤ 1
  · obtain ⟨n, hn, rfl⟩ := i_nat (x := a) (n := 2) (by omega) (by omega)
    rw [if_pos h, ldM_s S n hn, nI_clamp (by omega)] at eX
    have hok : okR S = true := by
      have h1 : rR S 10 0 = 0 ∨ rR S 10 0 = 42 := by
        rcases j0 with ⟨y, -⟩ | ⟨y, -⟩
        · exact Or.inl y
        · exact Or.inr y
      have h2 : rR S 10 1 = 0 ∨ rR S 10 1 = 51 := by
        rcases j1 with ⟨y, -⟩ | ⟨y, -⟩
        · exact Or.inl y
        · exact Or.inr y
      obtain ⟨r1, r2⟩ := hr
      simp only [okR, Bool.and_eq_true, Bool.or_eq_true, decide_eq_true_eq]
      refine ⟨⟨⟨⟨⟨?_, ?_⟩, ?_⟩, ?_⟩, h1⟩, h2⟩
      · omega
      · omega
      · omega
      · omega
    have hnm : ∀ x, x ∉ List.range' (42 + 9 * n) 9 ↔ ¬ (42 + 9 * n ≤ x ∧ x < 51 + 9 * n) := fun x => by
      rw [List.mem_range'_1]
      omega
    have key : ∃ T, X10_image S (nI n) = some (1, T) ∧ Un (10 :: List.range' (42 + 9 * n) 9) S T ∧ (∀ j, rI T 10 j = rI S 10 j ∧ rJ T 10 j = rJ S 10 j ∧ rR T 10 j = if j = n then 42 + 9 * n else rR S 10 j) ∧ HX T (42 + 9 * n) A := by
      by_cases h0 : rR S 10 n = 0
      · rw [h0] at eX
        obtain ⟨n1, n2⟩ := newI_un S n
        have hx1 : HX (newI S n) 1 A := by
          obtain ⟨⟨g1, g2, g3, g4, g5, g6⟩, g7, g8, g9, g10, g11⟩ := hx
          have e : ∀ x, x < 42 → (∀ j, rI (newI S n) x j = rI S x j) ∧ (∀ j, rJ (newI S n) x j = rJ S x j) := fun x hx => n1 x (by omega)
          refine ⟨⟨((e _ (by decide)).1 _).trans g1, ((e _ (by decide)).1 _).trans g2, ((e _ (by decide)).1 _).trans g3, ((e _ (by decide)).1 _).trans g4, ((e _ (by decide)).1 _).trans g5, ((e _ (by decide)).1 _).trans g6⟩, fun r w y1 y2 => ((e _ (by decide)).1 _).trans (g7 r w y1 y2), fun f t y1 y2 => ((e _ (by decide)).1 _).trans (g8 f t y1 y2), fun d f y1 y2 => ((e _ (by decide)).1 _).trans (g9 d f y1 y2), fun k y => ((e _ (by decide)).1 _).trans (g10 k y), fun k y => ((e _ (by decide)).2 _).trans (g11 k y)⟩
        have hrn : rR (newI S n) 10 n = 42 + 9 * n := if_pos ⟨rfl, rfl⟩
        obtain ⟨T, t1, t2, t3⟩ := take_ok (S := newI S n) (p := 42 + 9 * n) (q := 1) (by omega) (by omega) (blkI _ hn (by omega)) (blk1 _) hw hx1
        refine ⟨T, ?_, fun x hx => ?_, fun j => ?_, t3⟩
        · rw [eX]
          show ((if okR S = true then X1_take (newI S n) (42 + 9 * n) 1 else none).bind _) = _
          rw [if_pos hok, t1]
          rfl
        · have x10 : x ≠ 10 := fun z => hx (by rw [z]; exact List.mem_cons_self)
          have xr : x ∉ List.range' (42 + 9 * n) 9 := fun z => hx (List.mem_cons_of_mem _ z)
          have := t2 x xr
          have n1 := n1 x ((hnm x).mp xr)
          refine ⟨fun j => (this.1 j).trans (n1.1 j), fun j => (this.2.1 j).trans (n1.2 j), fun j => ?_⟩
          rw [this.2.2, n2, if_neg (fun z => x10 z.1)]
        · have := t2 10 ((hnm 10).mpr (by omega))
          have n1 := n1 10 (by omega)
          refine ⟨(this.1 j).trans (n1.1 j), (this.2.1 j).trans (n1.2 j), ?_⟩
          rw [this.2.2, n2]
          by_cases hj : j = n
          · rw [if_pos ⟨rfl, hj⟩, if_pos hj]
          · rw [if_neg (fun z => hj z.2), if_neg hj]
      · have hy : rR S 10 n = 42 + 9 * n := by
          have : n = 0 ∨ n = 1 := by omega
          rcases this with rfl | rfl
          · rcases j0 with ⟨y, -⟩ | ⟨y, -⟩
            · exact absurd y h0
            · exact y
          · rcases j1 with ⟨y, -⟩ | ⟨y, -⟩
            · exact absurd y h0
            · exact y
        have eX : X10_image S (nI n) = (if rR S 10 n = 0 then (if okR S = true then X1_take (newI S n) (42 + 9 * n) 1 else none) else (ckO S (rR S 10 n) 1).bind fun _ => X1_take S (rR S 10 n) 1).bind fun S1 => some (1, S1) := eX
        rw [if_neg h0, hy] at eX
        have hb := blkI S hn h0
        obtain ⟨T, t1, t2, t3⟩ := take_ok (S := S) (p := 42 + 9 * n) (q := 1) (by omega) (by omega) hb (blk1 _) hw hx
        refine ⟨T, ?_, t2.mono (fun x hx => List.mem_cons_of_mem _ hx), fun j => ?_, t3⟩
        · rw [eX, ck_ok hb.1]
          show (X1_take S (42 + 9 * n) 1).bind _ = _
          rw [t1]
          rfl
        · have := t2 10 ((hnm 10).mpr (by omega))
          refine ⟨this.1 j, this.2.1 j, ?_⟩
          rw [this.2.2]
          by_cases hj : j = n
          · rw [if_pos hj, hj]
            exact hy
          · rw [if_neg hj]
    obtain ⟨T, t1, t2, t3, t4⟩ := key
    obtain ⟨U, u1, u2, u3⟩ := im1 T hn
    obtain ⟨V, v1, v2, v3⟩ := im2 U hn
    have huv : Un [74, 75] T V := (u2.mono (by simp)).trs (v2.mono (by simp))
    refine ⟨1, T, wI V 76 n 1, t1, ?_, ?_⟩
    · rw [eM T, if_pos h, u1]
      show (X11_image_L47 (nI n) FU 0 U).bind _ = _
      rw [v1]
      show (stZ V 76 (nI n) 1).bind _ = _
      rw [stZ_s V n 1 hn]
      rfl
    · obtain ⟨W, hW⟩ : ∃ W, W = wI V 76 n 1 := ⟨_, rfl⟩
      rw [← hW]
      have hTW : Un [74, 75, 76] T W := by rw [hW]; exact (huv.mono (by simp)).trs (Un.wI _ _ _ _ (by simp))
      obtain ⟨L, hL⟩ : ∃ L, L = (10 :: List.range' (42 + 9 * n) 9) ++ [74, 75, 76] := ⟨_, rfl⟩
      have hu : Un L S W := by rw [hL]; exact t2.tr hTW
      have nL : ∀ x, x ≠ 10 → ¬ (42 + 9 * n ≤ x ∧ x < 51 + 9 * n) → x ≠ 74 → x ≠ 75 → x ≠ 76 → x ∉ L := fun x h1 h2 h3 h4 h5 z => by
        rw [hL] at z
        rcases List.mem_append.mp z with z | z
        · rcases List.mem_cons.mp z with z | z
          · exact h1 z
          · exact (hnm x).mpr h2 z
        · simp at z
          omega
      have nT : ∀ x, x ≠ 10 → ¬ (42 + 9 * n ≤ x ∧ x < 51 + 9 * n) → x ∉ 10 :: List.range' (42 + 9 * n) 9 := fun x h1 h2 z => by
        rcases List.mem_cons.mp z with z | z
        · exact h1 z
        · exact (hnm x).mpr h2 z
      have e76 : ∀ j, rI W 76 j = if j = n then 1 else rI S 76 j := fun j => by
        rw [hW, rI_wI]
        by_cases hj : j = n
        · rw [if_pos ⟨rfl, hj⟩, if_pos hj]
        · rw [if_neg (fun z => hj z.2), if_neg hj, (huv 76 (by decide)).1, (t2 76 (nT 76 (by omega) (by omega))).1]
      have e74 : ∀ x, rI W 74 x = if 648 * n ≤ x ∧ x < 648 * n + 648 then rI S 61 (x - 648 * n) else rI S 74 x := fun x => by
        rw [hW, rI_wI_a (by decide), (v2 74 (by decide)).1, u3, (t2 61 (nT 61 (by omega) (by omega))).1, (t2 74 (nT 74 (by omega) (by omega))).1]
      have e75 : ∀ x, rJ W 75 x = if 8 * n ≤ x ∧ x < 8 * n + 8 then rJ S 62 (x - 8 * n) else rJ S 75 x := fun x => by
        rw [hW, rJ_wI, v3, (u2 62 (by decide)).2.1, (u2 75 (by decide)).2.1, (t2 62 (nT 62 (by omega) (by omega))).2.1, (t2 75 (nT 75 (by omega) (by omega))).2.1]
      have e10 : ∀ j, rR W 10 j = if j = n then 42 + 9 * n else rR S 10 j := fun j => by
        rw [(hTW 10 (by decide)).2.2, (t3 j).2.2]
      have img : ∀ m, m < 2 → Img S m → Img W m := fun m hm2 hj => by
        by_cases hmn : m = n
        · subst hmn
          refine Or.inr ⟨?_, ?_, A, hw, t4.un hTW (fun k hk => by simp <;> omega), hm.cp hw (fun j hj => ?_) (fun j hj => ?_)⟩
          · rw [e10, if_pos rfl]
          · rw [e76, if_pos rfl]
          · rw [e74, if_pos (by omega), Nat.zero_add, show 648 * m + j - 648 * m = j by omega]
          · rw [e75, if_pos (by omega), Nat.zero_add, show 8 * m + j - 8 * m = j by omega]
        · rcases hj with ⟨y1, y2⟩ | ⟨y1, y2, B, bw, bx, bm⟩
          · refine Or.inl ⟨?_, ?_⟩
            · rw [e10, if_neg hmn]; exact y1
            · rw [e76, if_neg hmn]; exact y2
          · refine Or.inr ⟨?_, ?_, B, bw, bx.un hu (fun k hk => nL _ (by omega) (by omega) (by omega) (by omega) (by omega)), bm.cp bw (fun j hj => ?_) (fun j hj => ?_)⟩
            · rw [e10, if_neg hmn]; exact y1
            · rw [e76, if_neg hmn]; exact y2
            · rw [e74, if_neg (by omega)]
            · rw [e75, if_neg (by omega)]
      refine ⟨⟨A, hw, hx.un hu (fun k hk => nL _ (by omega) (by omega) (by omega) (by omega) (by omega)), hm.un hu (nL _ (by omega) (by omega) (by omega) (by omega) (by omega)) (nL _ (by omega) (by omega) (by omega) (by omega) (by omega))⟩, ⟨img 0 (by omega) j0, img 1 (by omega) j1⟩, ht.un hu ((hu 11 (nL _ (by omega) (by omega) (by omega) (by omega) (by omega))).1 0) ((hu 60 (nL _ (by omega) (by omega) (by omega) (by omega) (by omega))).1 5) (nL _ (by omega) (by omega) (by omega) (by omega) (by omega)) (nL _ (by omega) (by omega) (by omega) (by omega) (by omega)), fun g hg => (hs g hg).un hu (nL _ (by omega) (by omega) (by omega) (by omega) (by omega)) (nL _ (by omega) (by omega) (by omega) (by omega) (by omega)) (nL _ (by omega) (by omega) (by omega) (by omega) (by omega)) (nL _ (by omega) (by omega) (by omega) (by omega) (by omega)) (nL _ (by omega) (by omega) (by omega) (by omega) (by omega)), hr.un hu (nL _ (by omega) (by omega) (by omega) (by omega) (by omega)) (nL _ (by omega) (by omega) (by omega) (by omega) (by omega))⟩
  · exact ⟨-1, S, S, by rw [eX, if_neg h], by rw [eM S, if_neg h], hI⟩
