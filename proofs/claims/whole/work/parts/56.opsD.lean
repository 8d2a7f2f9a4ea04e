/-! bits of eight -/
theorem mask_lt (p : Nat → Bool) : ∀ n, mask p n < 2 ^ n
  | 0 => Nat.zero_lt_one
  | n + 1 => by
    have h := mask_lt p n
    show mask p n + (if p n then 2 ^ n else 0) < 2 ^ (n + 1)
    rw [Nat.pow_succ]
    split <;> omega
theorem mask_tb (p : Nat → Bool) (t : Nat) : ∀ n, (mask p n).testBit t = (decide (t < n) && p t)
  | 0 => by
    show (0 : Nat).testBit t = _
    rw [Nat.zero_testBit]
    simp
  | n + 1 => by
    have ih := mask_tb p t n
    have hl := mask_lt p n
    show (mask p n + (if p n then 2 ^ n else 0)).testBit t = _
    by_cases hp : p n = true
    · rw [if_pos hp, Nat.add_comm]
      rcases Nat.lt_trichotomy t n with h | h | h
      · rw [Nat.testBit_two_pow_add_gt h, ih]
        simp [h, Nat.lt_succ_of_lt h]
      · subst h
        rw [Nat.testBit_two_pow_add_eq, ih]
        simp [hp]
      · rw [Nat.testBit_lt_two_pow]
        · simp [Nat.not_lt.mpr (Nat.succ_le_of_lt h)]
        · have : 2 ^ (n + 1) ≤ 2 ^ t := Nat.pow_le_pow_right (by decide) h
          rw [Nat.pow_succ] at this
          omega
    · have hp : p n = false := by simpa using hp
      rw [if_neg (by simp [hp]), Nat.add_zero, ih]
      by_cases h : t < n
      · simp [h, Nat.lt_succ_of_lt h]
      · by_cases h2 : t = n
        · subst h2
          simp [hp]
        · have : ¬ t < n + 1 := by omega
          simp [h, this]
theorem mask_cong {p q : Nat → Bool} : ∀ n, (∀ t, t < n → p t = q t) → mask p n = mask q n
  | 0, _ => rfl
  | n + 1, h => by
    show mask p n + (if p n then 2 ^ n else 0) = mask q n + (if q n then 2 ^ n else 0)
    rw [mask_cong n (fun t ht => h t (by omega)), h n (by omega)]
theorem mask_of (l : Nat) (h : l < 256) : mask l.testBit 8 = l := by
  have key : (List.range 256).all (fun l => decide (mask l.testBit 8 = l)) = true := by decide +kernel
  exact of_decide_eq_true (List.all_eq_true.mp key l (List.mem_range.mpr h))
def setN (l t : Nat) : Nat := if l.testBit t then l else l + 2 ^ t
def clrN (l t : Nat) : Nat := if l.testBit t then l - 2 ^ t else l
theorem bits8 {l t : Nat} (hl : l < 256) (ht : t < 8) : nI l ||| (1 <<< (nI t &&& 31)) = nI (setN l t) ∧ nI l &&& ((1 <<< (nI t &&& 31)) ^^^ (-1)) = nI (clrN l t) ∧ ((nI l >>> (nI t &&& 31)) &&& 1) = (if l.testBit t then 1 else 0) ∧ setN l t < 256 ∧ clrN l t < 256 := by
  have key : (List.range 256).all (fun l => (List.range 8).all (fun t => decide (nI l ||| (1 <<< (nI t &&& 31)) = nI (setN l t)) && decide (nI l &&& ((1 <<< (nI t &&& 31)) ^^^ (-1)) = nI (clrN l t)) && decide (((nI l >>> (nI t &&& 31)) &&& 1) = (if l.testBit t then 1 else 0)) && decide (setN l t < 256) && decide (clrN l t < 256))) = true := by decide +kernel
  have h := List.all_eq_true.mp (List.all_eq_true.mp key l (List.mem_range.mpr hl)) t (List.mem_range.mpr ht)
  simp only [Bool.and_eq_true, decide_eq_true_eq] at h
  exact ⟨h.1.1.1.1, h.1.1.1.2, h.1.1.2, h.1.2, h.2⟩
theorem tb8 {l t s : Nat} (hl : l < 256) (ht : t < 8) (hs : s < 8) : (setN l t).testBit s = (if s = t then true else l.testBit s) ∧ (clrN l t).testBit s = (if s = t then false else l.testBit s) := by
  have key : (List.range 256).all (fun l => (List.range 8).all (fun t => (List.range 8).all (fun s => decide ((setN l t).testBit s = (if s = t then true else l.testBit s)) && decide ((clrN l t).testBit s = (if s = t then false else l.testBit s))))) = true := by decide +kernel
  have h := List.all_eq_true.mp (List.all_eq_true.mp (List.all_eq_true.mp key l (List.mem_range.mpr hl)) t (List.mem_range.mpr ht)) s (List.mem_range.mpr hs)
  simp only [Bool.and_eq_true, decide_eq_true_eq] at h
  exact h
theorem mask_set (p : Nat → Bool) {t : Nat} (ht : t < 8) (b : Bool) : mask (fun s => if s = t then b else p s) 8 = if b then setN (mask p 8) t else clrN (mask p 8) t := by
  have hl := mask_lt p 8
  have hb := bits8 hl ht
  cases b with
  | true =>
    rw [if_pos rfl, ← mask_of (setN (mask p 8) t) hb.2.2.2.1]
    refine mask_cong 8 (fun s hs => ?_)
    rw [(tb8 hl ht hs).1, mask_tb p s 8]
    simp [hs]
  | false =>
    rw [if_neg (by decide), ← mask_of (clrN (mask p 8) t) hb.2.2.2.2]
    refine mask_cong 8 (fun s hs => ?_)
    rw [(tb8 hl ht hs).2, mask_tb p s 8]
    simp [hs]
theorem hasTwoG {α : Type} {S : St} {A : Ch} (hx : HX S 1 A) (hn : A.n ≤ 8) (a b : Int32) {X Y : Option α} : ((X6_hasTwo S a b).bind fun x => if x = 0 then X else Y) = if (0 ≤ a.toInt ∧ a.toInt < A.n) ∧ (0 ≤ b.toInt ∧ b.toInt < A.n) ∧ ¬ a = b then Y else X := by
  unfold X6_hasTwo
  rw [hasG hx hn a, hasG hx hn b]
  by_cases h1 : 0 ≤ a.toInt ∧ a.toInt < A.n
  · rw [if_pos h1]
    by_cases h2 : 0 ≤ b.toInt ∧ b.toInt < A.n
    · rw [if_pos h2]
      by_cases h3 : a = b
      · rw [if_pos h3, if_neg (fun z => z.2.2 h3)]
        rfl
      · rw [if_neg h3, if_pos ⟨h1, h2, h3⟩]
        rfl
    · rw [if_neg h2, if_neg (fun z => h2 z.2.1)]
      rfl
  · rw [if_neg h1, if_neg (fun z => h1 z.1)]
    rfl
theorem roomsG {α : Type} {S : St} {A : Ch} (hm : HM S 61 0 62 0 A) (hn : A.n ≤ 8) (a b : Int32) {X Y : Option α} : ((X11_isRoom S a).bind fun x => if x = 0 then X else (X11_isRoom S b).bind fun y => if y = 0 then X else if a = b then X else Y) = if (0 ≤ a.toInt ∧ a.toInt < A.n) ∧ (0 ≤ b.toInt ∧ b.toInt < A.n) ∧ ¬ a = b then Y else X := by
  rw [roomG hm hn a, roomG hm hn b]
  by_cases h1 : 0 ≤ a.toInt ∧ a.toInt < A.n
  · rw [if_pos h1]
    by_cases h2 : 0 ≤ b.toInt ∧ b.toInt < A.n
    · rw [if_pos h2]
      by_cases h3 : a = b
      · rw [if_pos h3, if_neg (fun z => z.2.2 h3)]
      · rw [if_neg h3, if_pos ⟨h1, h2, h3⟩]
    · rw [if_neg h2, if_neg (fun z => h2 z.2.1)]
  · rw [if_neg h1, if_neg (fun z => h1 z.1)]
theorem st_wire : ∀ (S : St) (a0 : Int32) (a1 : Int32) (a2 : Int32), Inv S → ∃ (r : Int32) (S1 : St) (S2 : St), X10_wire S a0 a1 a2 = some (r, S1) ∧ X11_wire S1 a0 a1 a2 = some (r, S2) ∧ Inv S2 := by
  intro S a b v hI
  obtain ⟨⟨A, hw, hx, hm⟩, -⟩ := id hI
  have hn := hw.1
  have eX : X10_wire S a b v = if (0 ≤ a.toInt ∧ a.toInt < A.n) ∧ (0 ≤ b.toInt ∧ b.toInt < A.n) ∧ ¬ a = b then (if 0 ≤ v.toInt ∧ v.toInt ≤ 400 then (X6_lay S a b v).bind (fun (x7, S8) => some (x7, S8)) else some (-1, S)) else some (-1, S) := by
    unfold X10_wire
    rw [hasTwoG hx hn a b, gd v 0 400 0 400]
  have eM : ∀ T : St, HM T 61 0 62 0 A → X11_wire T a b v = if (0 ≤ a.toInt ∧ a.toInt < A.n) ∧ (0 ≤ b.toInt ∧ b.toInt < A.n) ∧ ¬ a = b then (if 0 ≤ v.toInt ∧ v.toInt ≤ 400 then ((X11_wireOf T a b).bind fun x12 => (stA T 61 ((64 + (8 * a)) + b) v).bind fun S13 => some (x12, S13)) else some (-1, T)) else some (-1, T) := fun T hT => by
    unfold X11_wire
    refine (roomsG hT hn a b).trans ?_
    rw [md T v 0 400 0 400]
  by_cases h1 : (0 ≤ a.toInt ∧ a.toInt < A.n) ∧ (0 ≤ b.toInt ∧ b.toInt < A.n) ∧ ¬ a = b
  · by_cases h2 : 0 ≤ v.toInt ∧ v.toInt ≤ 400
    · obtain ⟨f, hf, rfl⟩ := i_nat h1.1.1 h1.1.2
      obtain ⟨t, ht, rfl⟩ := i_nat h1.2.1.1 h1.2.1.2
      obtain ⟨k, hk, rfl⟩ := i_nat (x := v) (n := 401) (by omega) (by omega)
      have hft : f ≠ t := fun z => h1.2.2 (by rw [z])
      have hm1 : HM (wI S 4 (8 * f + t) (nI k)) 61 0 62 0 A := hm.un (Un.wI S 4 _ _ (L := [4]) (by simp)) (by decide) (by decide)
      have m1 := hm.2.2.2.1 f t (by omega) (by omega)
      rw [show 0 + 64 + 8 * f + t = 64 + 8 * f + t by omega] at m1
      refine ⟨nI (A.wire f t), wI S 4 (8 * f + t) (nI k), wI (wI S 4 (8 * f + t) (nI k)) 61 (64 + 8 * f + t) (nI k), ?_, ?_, ?_⟩
      · rw [eX, if_pos h1, if_pos h2]
        have e : X6_lay S (nI f) (nI t) (nI k) = some (nI (A.wire f t), wI S 4 (8 * f + t) (nI k)) := by
          unfold X6_lay
          refine (bd ((between_ok (by omega) (by omega)).trans (congrArg some (hx.2.2.1 f t (by omega) (by omega))))).trans ?_
          exact bd (stA_s S 4 (8 * f + t) _ rfl (ix2 8 f t) (by show _ < 64; omega))
        rw [e]
        rfl
      · rw [eM _ hm1, if_pos h1, if_pos h2]
        refine (bd ((wireOf_ok (by omega) (by omega)).trans (congrArg some m1))).trans ?_
        exact bd (stA_s _ 61 (64 + 8 * f + t) _ rfl (ix3 64 8 f t) (by show _ < 648; omega))
      · have hu : Un [4, 61] S (wI (wI S 4 (8 * f + t) (nI k)) 61 (64 + 8 * f + t) (nI k)) := (Un.wI S 4 _ _ (by simp)).trs (Un.wI _ 61 _ _ (by simp))
        refine hI.a hu (by decide) (A := (A.n, A.val, fun f' t' => if f' = f ∧ t' = t then k else A.wire f' t', A.lo, A.pace, A.fit, A.most, A.len, A.snd, A.ln, A.los)) ?_ ?_ ?_
        · obtain ⟨w1, w2, w3, w4, w5⟩ := hw
          refine ⟨w1, w2, fun f' t' g1 g2 => ?_, fun f' g1 => ?_, w5⟩
          · show (if f' = f ∧ t' = t then k else A.wire f' t') ≤ 400
            split
            · omega
            · exact w3 f' t' g1 g2
          · show (if f' = f ∧ f' = t then k else A.wire f' f') = 0
            rw [if_neg (by omega)]
            exact w4 f' g1
        · obtain ⟨q1, q2, q3, q4⟩ := hx
          refine ⟨q1, q2, fun f' t' g1 g2 => ?_, q4⟩
          show (if 4 = 4 ∧ 8 * f' + t' = 8 * f + t then nI k else rI S 4 (8 * f' + t')) = nI (if f' = f ∧ t' = t then k else A.wire f' t')
          by_cases z : f' = f ∧ t' = t
          · rw [if_pos z, if_pos ⟨rfl, by omega⟩]
          · rw [if_neg z, if_neg (fun y => z (by omega))]
            exact q3 f' t' g1 g2
        · have e : ∀ j, j ≠ 64 + 8 * f + t → rI (wI (wI S 4 (8 * f + t) (nI k)) 61 (64 + 8 * f + t) (nI k)) 61 j = rI S 61 j := fun j hj => by
            rw [rI_wI_k hj, rI_wI_a (by decide)]
          obtain ⟨⟨p0, p128, p131, p129, p130, p132⟩, pv, pz, pw, pl, ps⟩ := hm.put (64 + 8 * f + t) e
          have hl := hw.2.2.2.2.2.2.2.1
          refine ⟨⟨p0 (by omega), p128 (by omega), p131 (by omega), p129 (by omega), p130 (by omega), p132 (by omega)⟩, fun r w hr hw' => pv r w hr hw' (by have hr : r < A.n := hr; omega), fun r w g1 g2 g3 g4 => pz r w g1 g2 g3 g4 (by omega), fun f' t' g1 g2 => ?_, fun d f t hd hf ht => pl d f t hd hf ht (by omega), fun j hj => ps j hj (by omega), hm.2.2.2.2.2.2⟩
          show _ = nI (if f' = f ∧ t' = t then k else A.wire f' t')
          by_cases z : f' = f ∧ t' = t
          · rw [if_pos z, z.1, z.2]
            have : 0 + 64 + 8 * f + t = 64 + 8 * f + t := by omega
            rw [this]
            exact rI_wI_s _ _ _ _
          · rw [if_neg z]
            exact pw f' t' g1 g2 (fun y => z (by omega))
    · refine ⟨-1, S, S, ?_, ?_, hI⟩
      · rw [eX, if_pos h1, if_neg h2]
      · rw [eM S hm, if_pos h1, if_neg h2]
  · refine ⟨-1, S, S, ?_, ?_, hI⟩
    · rw [eX, if_neg h1]
    · rw [eM S hm, if_neg h1]
theorem mostN_I (w : Nat) (h : w < 6) : (MOSTV w).toInt = (mostN w : Int) := by
  have : w = 0 ∨ w = 1 ∨ w = 2 ∨ w = 3 ∨ w = 4 ∨ w = 5 := by omega
  rcases this with rfl | rfl | rfl | rfl | rfl | rfl <;> rfl
theorem mostN_le (w : Nat) (h : w < 6) : mostN w ≤ 999 := by
  have : w = 0 ∨ w = 1 ∨ w = 2 ∨ w = 3 ∨ w = 4 ∨ w = 5 := by omega
  rcases this with rfl | rfl | rfl | rfl | rfl | rfl <;> decide
theorem highest_ok (S : St) {w : Nat} (h : w < 6) : X11_highest S (nI w) = some (MOSTV w) := by
  have : w = 0 ∨ w = 1 ∨ w = 2 ∨ w = 3 ∨ w = 4 ∨ w = 5 := by omega
  rcases this with rfl | rfl | rfl | rfl | rfl | rfl <;> rfl
theorem st_set : ∀ (S : St) (a0 : Int32) (a1 : Int32) (a2 : Int32), Inv S → ∃ (r : Int32) (S1 : St) (S2 : St), X10_set S a0 a1 a2 = some (r, S1) ∧ X11_set S1 a0 a1 a2 = some (r, S2) ∧ Inv S2 := by
  intro S a b v hI
  obtain ⟨⟨A, hw, hx, hm⟩, -⟩ := id hI
  have hn := hw.1
  by_cases h1 : 0 ≤ a.toInt ∧ a.toInt < A.n
  · by_cases h2 : 0 ≤ b.toInt ∧ b.toInt ≤ 5
    · obtain ⟨f, hf, rfl⟩ := i_nat h1.1 h1.2
      obtain ⟨w, hwl, rfl⟩ := i_nat (x := b) (n := 6) h2.1 (by omega)
      have hM := mostN_I w hwl
      have hMl := mostN_le w hwl
      have eX : X10_set S (nI f) (nI w) v = if 0 ≤ v.toInt ∧ v.toInt ≤ mostN w then (X6_change S (nI f) (nI w) v).bind (fun (x11, S12) => some (x11, S12)) else some (-1, S) := by
        unfold X10_set
        rw [hasG hx hn (nI f), if_pos h1, if_neg (nI_pos (by omega))]
        refine (if_neg (nI_ge (b := 6) hwl (by decide))).trans ?_
        rw [ldT_s MOSTV w rfl hwl]
        exact gd v 0 (MOSTV w) 0 (mostN w) (by decide) hM
      have eM : ∀ T : St, HM T 61 0 62 0 A → X11_set T (nI f) (nI w) v = if 0 ≤ v.toInt ∧ v.toInt ≤ mostN w then ((X11_of T (nI f) (nI w)).bind fun x13 => (stA T 61 ((8 + (6 * nI f)) + nI w) v).bind fun S14 => some (x13, S14)) else some (-1, T) := fun T hT => by
        unfold X11_set
        rw [roomG hT hn (nI f), if_pos h1, md T (nI w) 0 5 0 5, if_pos h2, highest_ok T hwl]
        exact md T v 0 ((MOSTV w).toInt64) 0 (mostN w) (by decide) (by rw [tI64]; exact hM)
      by_cases h3 : 0 ≤ v.toInt ∧ v.toInt ≤ mostN w
      · obtain ⟨k, hk, rfl⟩ := i_nat (x := v) (n := mostN w + 1) h3.1 (by omega)
        have hm1 : HM (wI S 3 (6 * f + w) (nI k)) 61 0 62 0 A := hm.un (Un.wI S 3 _ _ (L := [3]) (by simp)) (by decide) (by decide)
        have m1 := hm.2.1 f w (by omega) (by omega)
        rw [show 0 + 8 + 6 * f + w = 8 + 6 * f + w by omega] at m1
        refine ⟨nI (A.val f w), wI S 3 (6 * f + w) (nI k), wI (wI S 3 (6 * f + w) (nI k)) 61 (8 + 6 * f + w) (nI k), ?_, ?_, ?_⟩
        · rw [eX, if_pos h3]
          have e : X6_change S (nI f) (nI w) (nI k) = some (nI (A.val f w), wI S 3 (6 * f + w) (nI k)) := by
            unfold X6_change
            refine (bd ((value_ok (by omega) hwl).trans (congrArg some (hx.2.1 f w hf hwl)))).trans ?_
            exact bd (stA_s S 3 (6 * f + w) _ rfl (ix2 6 f w) (by show _ < 48; omega))
          rw [e]
          rfl
        · rw [eM _ hm1, if_pos h3]
          refine (bd ((of_ok (by omega) hwl).trans (congrArg some m1))).trans ?_
          exact bd (stA_s _ 61 (8 + 6 * f + w) _ rfl (ix3 8 6 f w) (by show _ < 648; omega))
        · have hu : Un [3, 61] S (wI (wI S 3 (6 * f + w) (nI k)) 61 (8 + 6 * f + w) (nI k)) := (Un.wI S 3 _ _ (by simp)).trs (Un.wI _ 61 _ _ (by simp))
          refine hI.a hu (by decide) (A := (A.n, fun r' w' => if r' = f ∧ w' = w then k else A.val r' w', A.wire, A.lo, A.pace, A.fit, A.most, A.len, A.snd, A.ln, A.los)) ?_ ?_ ?_
          · obtain ⟨w1, w2, w3⟩ := hw
            refine ⟨w1, fun r' w' g1 g2 => ?_, w3⟩
            show (if r' = f ∧ w' = w then k else A.val r' w') ≤ mostN w'
            by_cases z : r' = f ∧ w' = w
            · rw [if_pos z, z.2]
              omega
            · rw [if_neg z]
              exact w2 r' w' g1 g2
          · obtain ⟨q1, q2, q4⟩ := hx
            refine ⟨q1, fun r' w' g1 g2 => ?_, q4⟩
            show (if 3 = 3 ∧ 6 * r' + w' = 6 * f + w then nI k else rI S 3 (6 * r' + w')) = nI (if r' = f ∧ w' = w then k else A.val r' w')
            by_cases z : r' = f ∧ w' = w
            · rw [if_pos z, if_pos ⟨rfl, by omega⟩]
            · rw [if_neg z, if_neg (fun y => z (by omega))]
              exact q2 r' w' g1 g2
          · have e : ∀ j, j ≠ 8 + 6 * f + w → rI (wI (wI S 3 (6 * f + w) (nI k)) 61 (8 + 6 * f + w) (nI k)) 61 j = rI S 61 j := fun j hj => by
              rw [rI_wI_k hj, rI_wI_a (by decide)]
            obtain ⟨⟨p0, p128, p131, p129, p130, p132⟩, pv, pz, pw, pl, ps⟩ := hm.put (8 + 6 * f + w) e
            have hl := hw.2.2.2.2.2.2.2.1
            refine ⟨⟨p0 (by omega), p128 (by omega), p131 (by omega), p129 (by omega), p130 (by omega), p132 (by omega)⟩, fun r' w' g1 g2 => ?_, fun r w g1 g2 g3 g4 => pz r w g1 g2 g3 g4 (by have g1 : A.n ≤ r := g1; omega), fun f' t' g1 g2 => pw f' t' g1 g2 (by omega), fun d f t hd hf ht => pl d f t hd hf ht (by omega), fun j hj => ps j hj (by omega), hm.2.2.2.2.2.2⟩
            show _ = nI (if r' = f ∧ w' = w then k else A.val r' w')
            by_cases z : r' = f ∧ w' = w
            · rw [if_pos z, z.1, z.2]
              have : 0 + 8 + 6 * f + w = 8 + 6 * f + w := by omega
              rw [this]
              exact rI_wI_s _ _ _ _
            · rw [if_neg z]
              exact pv r' w' g1 g2 (fun y => z (by omega))
      · refine ⟨-1, S, S, ?_, ?_, hI⟩
        · rw [eX, if_neg h3]
        · rw [eM S hm, if_neg h3]
    · refine ⟨-1, S, S, ?_, ?_, hI⟩
      · unfold X10_set
        rw [hasG hx hn a, if_pos h1]
        by_cases z1 : b < 0
        · rw [if_pos z1]
        · have z1' : ¬ b.toInt < 0 := fun z => z1 ((i_lt b 0 0).mpr z)
          rw [if_neg z1, if_pos ((i_ge b 6 6).mpr (by omega))]
      · unfold X11_set
        rw [roomG hm hn a, if_pos h1, md S b 0 5 0 5, if_neg h2]
  · refine ⟨-1, S, S, ?_, ?_, hI⟩
    · unfold X10_set
      rw [hasG hx hn a, if_neg h1]
    · unfold X11_set
      rw [roomG hm hn a, if_neg h1]
