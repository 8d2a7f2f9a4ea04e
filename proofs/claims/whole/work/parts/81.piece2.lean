/-! one sound, on both sides -/
section RSS
variable {t : Nat} {b : Nat → Nat}
theorem rs_sk {s p L : Nat} {F : Nat → Nat} (hp : p ≤ t) : rs t b s (sk t b p) L F = rs t b s p L F := by
  unfold rs
  rw [sk_sk hp]
theorem ch_0 (hb : ∀ k, k < t → 32 ≤ b k ∧ b k ≤ 126) (q : Nat) : ch t b q = 0 ↔ t ≤ q := by
  unfold ch
  by_cases h : q < t
  · have := hb q h
    rw [if_pos h]
    omega
  · rw [if_neg h]
    omega
theorem chx_n {q : Nat} (h : ch t b q ≠ 0) : chx t b q = nI (ch t b q) := by
  unfold chx ch at *
  by_cases hq : q < t
  · rw [if_pos hq, if_pos hq]
  · rw [if_neg hq] at h
    exact absurd rfl h
theorem mm_b (p : Nat) : 1 ≤ mm t b p ∧ mm t b p ≤ 9 := by
  unfold mm
  split <;> omega
theorem p3_le {p : Nat} (hb : ∀ k, k < t → 32 ≤ b k ∧ b k ≤ 126) (hp : p < t) : p3 t b p ≤ t := by
  have h1 := sk_le (t := t) (b := b) (p := p + 1) (by omega)
  have h2 := ch_0 hb (sk t b (p + 1))
  unfold p3
  split
  · omega
  · exact h1.2.1
theorem p4_le {p : Nat} (hb : ∀ k, k < t → 32 ≤ b k ∧ b k ≤ 126) (hp : p < t) : p4 t b p ≤ t := (sk_le (p3_le hb hp)).2.1
theorem p5_le {p : Nat} (hb : ∀ k, k < t → 32 ≤ b k ∧ b k ≤ 126) (hp : p < t) : p5 t b p ≤ t := by
  have h1 := p4_le hb hp
  have h2 := ch_0 hb (p4 t b p)
  unfold p5
  split
  · omega
  · exact h1
theorem CP.pl {T : St} {p L : Nat} {F : Nat → Nat} (hc : CP t b T p L F) (q : Nat) : CP t b (wI T 11 3 (nI q)) q L F :=
  ⟨⟨by rw [rI_wI_k (by decide)]; exact hc.1.1, fun k hk => by rw [rI_wI_a (by decide)]; exact hc.1.2 k hk⟩, rI_wI_s _ _ _ _, by rw [rI_wI_a (by decide)]; exact hc.2.2.1, fun k hk => by rw [rI_wI_a (by decide)]; exact hc.2.2.2 k hk⟩
theorem MP.pl {T : St} {p L : Nat} {F : Nat → Nat} (hc : MP t b T p L F) (q : Nat) : MP t b (wI T 60 6 (nI q)) q L F :=
  ⟨⟨by rw [rI_wI_k (by decide)]; exact hc.1.1, fun k hk => by rw [rI_wI_a (by decide)]; exact hc.1.2 k hk⟩, rI_wI_s _ _ _ _, fun k hk => by rw [rI_wI_a (by decide)]; exact hc.2.2 k hk⟩
end RSS
def rsC (S12 : St) (x2 x11 : Int32) : Option (Int32 × St) :=
  (X8_peek S12).bind fun (x20, S21) =>
    (if x20 = 46 then some (1 : Int32) else some (0 : Int32)).bind fun x23 =>
    (if x23 = 0 then some S21 else (stF S21 11 3 ((rI S21 11 3) + 1)).bind fun S36 => some S36).bind fun S27 =>
    (if x2 = 45 then some (0 : Int32) else some ((x2 - 97) + 1)).bind fun x31 =>
    (X5_append S27 x31 x11 x23).bind fun S35 => some (1, S35)
def rsB (S3 : St) (x2 a1 : Int32) : Option (Int32 × St) :=
  (stF S3 11 3 ((rI S3 11 3) + 1)).bind fun S5 =>
    (X8_peek S5).bind fun (x8, S9) =>
    (if x8 < 49 then some ((1 : Int32), S9) else if 57 < x8 then some ((1 : Int32), S9) else (stF S9 11 3 ((rI S9 11 3) + 1)).bind fun S41 => some ((x8 - 48), S41)).bind fun (x11, S12) =>
    if a1 = 40 then (stF S12 11 3 (rI S3 11 3)).bind fun S16 => some (0, S16)
    else if ((rI S12 12 0) + x11) ≤ 64 then rsC S12 x2 x11
    else (stF S12 11 3 (rI S3 11 3)).bind fun S38 => some (0, S38)
theorem rsB_e (S : St) (a1 : Int32) : X8_readSound S a1 = (X8_peek S).bind fun (x2, S3) => if x2 = 45 then rsB S3 x2 a1 else if x2 < 97 then some (0, S3) else if x2 ≤ 103 then rsB S3 x2 a1 else some (0, S3) := rfl
section RSB
variable {t : Nat} {b : Nat → Nat}
theorem rsC_ok (ht : t ≤ 120) (hb : ∀ k, k < t → 32 ≤ b k ∧ b k ≤ 126) {p L : Nat} {F : Nat → Nat} {T : St} (hL : L + mm t b p ≤ 64) (hp : p < t) (hv : vl (ch t b p)) (hc : CP t b T (p3 t b p) L F) : ∃ T', rsC T (nI (ch t b p)) (nI (mm t b p)) = some (1, T') ∧ Un [11, 12, 13] T T' ∧ CP t b T' (p5 t b p) (L + mm t b p) (Fn L (mm t b p) (le_ (ch t b p)) (decide (ch t b (p4 t b p) = 46)) F) := by
  obtain ⟨T1, a1, a2, a3⟩ := peek_ok ht hb (p3_le hb hp) hc
  have e := chx_I ht hb (p4 t b p)
  have hbn := ch_b ht hb (p4 t b p)
  have hv2 : ch t b p = 45 ∨ (97 ≤ ch t b p ∧ ch t b p ≤ 103) := hv
  obtain ⟨br, ebr⟩ : ∃ br, br = decide (ch t b (p4 t b p) = 46) := ⟨_, rfl⟩
  have e1 : (if chx t b (p4 t b p) = 46 then some (1 : Int32) else some (0 : Int32)) = some (if br = true then 1 else 0) := by
    rw [ebr]
    by_cases h : ch t b (p4 t b p) = 46
    · rw [if_pos (by rw [chx_n (by omega), h]; rfl), if_pos (by simp [h])]
    · rw [if_neg (fun z => by
        have := (i_eq _ 46 46).mp z
        rw [e] at this
        split at this <;> omega), if_neg (by simp [h])]
  obtain ⟨T2, b1, b2, b3⟩ : ∃ T2, (if (if br = true then (1 : Int32) else 0) = 0 then some T1 else (stF T1 11 3 ((rI T1 11 3) + 1)).bind fun S36 => some S36) = some T2 ∧ CP t b T2 (p5 t b p) L F ∧ Un [11] T1 T2 := by
    by_cases h : ch t b (p4 t b p) = 46
    · have hbr : br = true := by rw [ebr]; simp [h]
      refine ⟨wI T1 11 3 (nI (p4 t b p + 1)), ?_, ?_, Un.wI _ _ _ _ (by simp)⟩
      · rw [if_neg (by rw [if_pos hbr]; decide), show rI T1 11 3 = nI (p4 t b p) from a2.2.1, nI_1]
        rfl
      · unfold p5
        rw [if_pos h]
        exact a2.pl _
    · have hbr : ¬ br = true := by rw [ebr]; simp [h]
      refine ⟨T1, ?_, ?_, Un.rf _ _⟩
      · rw [if_pos (by rw [if_neg hbr])]
      · unfold p5
        rw [if_neg h]
        exact a2
  have e2 : (if nI (ch t b p) = 45 then some (0 : Int32) else some ((nI (ch t b p) - 97) + 1)) = some (nI (le_ (ch t b p))) := by
    unfold le_
    by_cases h : ch t b p = 45
    · rw [if_pos h, if_pos (by rw [h]; rfl)]
      rfl
    · rw [if_neg h, if_neg (show ¬ nI (ch t b p) = 45 from fun z => h ((nI_eq (b := 45) (by omega) (by decide)).mp z)), show nI (ch t b p) - 97 = nI (ch t b p - 97) from pk_sub (b := 97) (by omega), nI_1, show ch t b p - 97 + 1 = ch t b p - 96 by omega]
  obtain ⟨T3, c1, c2, c3⟩ := append_ok (l := le_ (ch t b p)) br hL b2
  refine ⟨T3, ?_, (a3.mono (by simp)).trs ((b3.mono (by simp)).trs (c3.mono (by simp))), by rw [← ebr]; exact c2⟩
  unfold rsC
  refine (bd a1).trans ?_
  refine (bd e1).trans ?_
  refine (bd b1).trans ?_
  refine (bd e2).trans ?_
  exact bd c1
theorem rsB_ok (ht : t ≤ 120) (hb : ∀ k, k < t → 32 ≤ b k ∧ b k ≤ 126) {s p L : Nat} {F : Nat → Nat} {T : St} (hs : s ≤ 40) (hL : L ≤ 64) (hp : p < t) (hv : vl (ch t b p)) (hc : CP t b T p L F) : ∃ T', Un [11, 12, 13] T T' ∧ (((s = 40 ∨ 64 < L + mm t b p) ∧ rsB T (nI (ch t b p)) (nI s) = some (0, T') ∧ rI T' 11 3 = nI p) ∨ (¬ (s = 40 ∨ 64 < L + mm t b p) ∧ rsB T (nI (ch t b p)) (nI s) = some (1, T') ∧ CP t b T' (p5 t b p) (L + mm t b p) (Fn L (mm t b p) (le_ (ch t b p)) (decide (ch t b (p4 t b p) = 46)) F))) := by
  have c3 : rI T 11 3 = nI p := hc.2.1
  have k1 := sk_le (t := t) (b := b) (p := p + 1) (by omega)
  obtain ⟨T1, a1, a2, a3⟩ := peek_ok ht hb (T := wI T 11 3 (nI (p + 1))) (p := p + 1) (by omega) (hc.pl (p + 1))
  have m1 := mm_b (t := t) (b := b) p
  have e := chx_I ht hb (sk t b (p + 1))
  have hbn := ch_b ht hb (sk t b (p + 1))
  obtain ⟨T2, d1, d2, d3⟩ : ∃ T2, (if chx t b (sk t b (p + 1)) < 49 then some ((1 : Int32), T1) else if 57 < chx t b (sk t b (p + 1)) then some ((1 : Int32), T1) else (stF T1 11 3 ((rI T1 11 3) + 1)).bind fun S41 => some ((chx t b (sk t b (p + 1)) - 48), S41)) = some (nI (mm t b p), T2) ∧ CP t b T2 (p3 t b p) L F ∧ Un [11] T1 T2 := by
    by_cases hd : 49 ≤ ch t b (sk t b (p + 1)) ∧ ch t b (sk t b (p + 1)) ≤ 57
    · have ex := chx_n (t := t) (b := b) (q := sk t b (p + 1)) (by omega)
      refine ⟨wI T1 11 3 (nI (sk t b (p + 1) + 1)), ?_, ?_, Un.wI _ _ _ _ (by simp)⟩
      · unfold mm
        rw [if_pos hd, if_neg (fun z => by
          have := (i_lt _ 49 49).mp z
          rw [e] at this
          split at this <;> omega), if_neg (fun z => by
          have := (i_gt _ 57 57).mp z
          rw [e] at this
          split at this <;> omega), show rI T1 11 3 = nI (sk t b (p + 1)) from a2.2.1, nI_1, ex, show nI (ch t b (sk t b (p + 1))) - 48 = nI (ch t b (sk t b (p + 1)) - 48) from pk_sub (b := 48) (by omega)]
        rfl
      · unfold p3
        rw [if_pos hd]
        exact a2.pl _
    · refine ⟨T1, ?_, ?_, Un.rf _ _⟩
      · unfold mm
        rw [if_neg hd]
        by_cases h1 : chx t b (sk t b (p + 1)) < 49
        · rw [if_pos h1]
          rfl
        · rw [if_neg h1, if_pos ((i_gt _ 57 57).mpr (by
            have : ¬ (chx t b (sk t b (p + 1))).toInt < 49 := fun z => h1 ((i_lt _ 49 49).mpr z)
            rw [e] at this ⊢
            split at this
            · omega
            · rw [if_neg (by assumption)]
              omega))]
          rfl
      · unfold p3
        rw [if_neg hd]
        exact a2
  have e0 : rsB T (nI (ch t b p)) (nI s) = if nI s = 40 then some (0, wI T2 11 3 (nI p)) else if nI L + nI (mm t b p) ≤ 64 then rsC T2 (nI (ch t b p)) (nI (mm t b p)) else some (0, wI T2 11 3 (nI p)) := by
    unfold rsB
    rw [c3, nI_1]
    refine (bd (rfl : stF T 11 3 (nI (p + 1)) = some (wI T 11 3 (nI (p + 1))))).trans ?_
    refine (bd a1).trans ?_
    refine (bd d1).trans ?_
    show (if nI s = 40 then (stF T2 11 3 (nI p)).bind (fun S16 => some (0, S16)) else if rI T2 12 0 + nI (mm t b p) ≤ 64 then rsC T2 (nI (ch t b p)) (nI (mm t b p)) else (stF T2 11 3 (nI p)).bind fun S38 => some (0, S38)) = _
    rw [d2.2.2.1]
    rfl
  have u2 : Un [11, 12, 13] T T2 := (Un.wI _ _ _ _ (by simp)).trs ((a3.mono (by simp)).trs (d3.mono (by simp)))
  by_cases h0 : s = 40 ∨ 64 < L + mm t b p
  · refine ⟨wI T2 11 3 (nI p), u2.trs (Un.wI _ _ _ _ (by simp)), Or.inl ⟨h0, ?_, rI_wI_s _ _ _ _⟩⟩
    rw [e0]
    by_cases h1 : s = 40
    · rw [if_pos (by rw [h1]; rfl)]
    · rw [if_neg (show ¬ nI s = 40 from fun z => h1 ((nI_eq (b := 40) (by omega) (by decide)).mp z)), nI_add]
      exact if_neg (fun z => by have := (nI_leI (b := 64) (by omega) (by decide)).mp z; omega)
  · obtain ⟨T3, f1, f2, f3⟩ := rsC_ok ht hb (T := T2) (p := p) (L := L) (F := F) (by omega) hp hv d2
    refine ⟨T3, u2.trs f2, Or.inr ⟨h0, ?_, f3⟩⟩
    rw [e0, if_neg (show ¬ nI s = 40 from fun z => h0 (Or.inl ((nI_eq (b := 40) (by omega) (by decide)).mp z))), nI_add]
    exact (if_pos (nI_le (b := 64) (by omega) (by decide))).trans f1
theorem readSound_ok (ht : t ≤ 120) (hb : ∀ k, k < t → 32 ≤ b k ∧ b k ≤ 126) {s p L : Nat} {F : Nat → Nat} {T : St} (hs : s ≤ 40) (hL : L ≤ 64) (hp : p ≤ t) (hc : CP t b T p L F) : ∃ T', Un [11, 12, 13] T T' ∧ ((∃ q, rs t b s p L F = .inl q ∧ X8_readSound T (nI s) = some (0, T') ∧ rI T' 11 3 = nI q) ∨ (∃ q L' F', rs t b s p L F = .inr (q, L', F') ∧ X8_readSound T (nI s) = some (1, T') ∧ CP t b T' q L' F')) := by
  obtain ⟨T1, a1, a2, a3⟩ := peek_ok ht hb hp hc
  have k1 := sk_le (t := t) (b := b) hp
  have e := chx_I ht hb (sk t b p)
  have hbn := ch_b ht hb (sk t b p)
  have h0 := ch_0 hb (sk t b p)
  have eX : X8_readSound T (nI s) = if vl (ch t b (sk t b p)) then rsB T1 (chx t b (sk t b p)) (nI s) else some (0, T1) := by
    rw [rsB_e]
    refine (bd a1).trans ?_
    show (if chx t b (sk t b p) = 45 then rsB T1 (chx t b (sk t b p)) (nI s) else if chx t b (sk t b p) < 97 then some (0, T1) else if chx t b (sk t b p) ≤ 103 then rsB T1 (chx t b (sk t b p)) (nI s) else some (0, T1)) = _
    have q1 := i_eq (chx t b (sk t b p)) 45 45
    have q2 := i_lt (chx t b (sk t b p)) 97 97
    have q3 := i_le (chx t b (sk t b p)) 103 103
    rw [e] at q1 q2 q3
    by_cases z : ch t b (sk t b p) = 0
    · rw [if_pos z] at q1 q2 q3
      rw [if_neg (fun y => by have := q1.mp y; omega), if_pos (q2.mpr (by omega)), if_neg (fun (y : _ ∨ _) => by omega)]
    · rw [if_neg z] at q1 q2 q3
      by_cases y1 : ch t b (sk t b p) = 45
      · rw [if_pos (q1.mpr (by omega)), if_pos (Or.inl y1)]
      · rw [if_neg (fun y => y1 (by have := q1.mp y; omega))]
        by_cases y2 : ch t b (sk t b p) < 97
        · rw [if_pos (q2.mpr (by omega)), if_neg (fun (y : _ ∨ _) => by omega)]
        · rw [if_neg (fun y => y2 (by have := q2.mp y; omega))]
          by_cases y3 : ch t b (sk t b p) ≤ 103
          · rw [if_pos (q3.mpr (by omega)), if_pos (Or.inr ⟨by omega, y3⟩)]
          · rw [if_neg (fun y => y3 (by have := q3.mp y; omega)), if_neg (fun (y : _ ∨ _) => by omega)]
  by_cases hv : vl (ch t b (sk t b p))
  · have hne : ch t b (sk t b p) ≠ 0 := by
      have hv : ch t b (sk t b p) = 45 ∨ (97 ≤ ch t b (sk t b p) ∧ ch t b (sk t b p) ≤ 103) := hv
      omega
    rw [if_pos hv, chx_n hne] at eX
    obtain ⟨T2, u2, g⟩ := rsB_ok ht hb hs hL (by omega) hv a2
    refine ⟨T2, (a3.mono (by simp)).trs u2, ?_⟩
    have er : rs t b s p L F = if s = 40 ∨ 64 < L + mm t b (sk t b p) then .inl (sk t b p) else .inr (p5 t b (sk t b p), L + mm t b (sk t b p), Fn L (mm t b (sk t b p)) (le_ (ch t b (sk t b p))) (decide (ch t b (p4 t b (sk t b p)) = 46)) F) := if_pos hv
    rcases g with ⟨g1, g2, g3⟩ | ⟨g1, g2, g3⟩
    · exact Or.inl ⟨_, by rw [er, if_pos g1], by rw [eX, g2], g3⟩
    · exact Or.inr ⟨_, _, _, by rw [er, if_neg g1], by rw [eX, g2], g3⟩
  · rw [if_neg hv] at eX
    exact ⟨T1, a3.mono (by simp), Or.inl ⟨sk t b p, if_neg hv, eX, a2.2.1⟩⟩
end RSB
def rdC (S21 : St) (a1 x7 x20 : Int32) : Option (Int32 × St) :=
  (X11_reads_L123 a1 x7 x20 FU 0 S21).bind fun S28 =>
    (X11_next S28).bind fun (x31, S32) =>
    (if x31 = 46 then
    (ldA S32 66 ((a1 + x20) - 1)).bind fun x37 =>
      (stA S32 66 ((a1 + x20) - 1) (x37 + 10)).bind fun S39 =>
      (stF S39 60 6 ((rI S39 60 6) + 1)).bind fun S41 =>
      some S41
    else
    some S32).bind fun S34 =>
    some ((a1 + x20), S34)
def rdB (S3 : St) (a1 x7 : Int32) : Option (Int32 × St) :=
  (stF S3 60 6 ((rI S3 60 6) + 1)).bind fun S12 =>
      (X11_next S12 ).bind fun (x15, S16) =>
      (X11_in S16 ((x15 : Int32).toInt64) 49 57).bind fun x18 =>
      (if x18 = 0 then
      some ((1 : Int32), S16)
      else
      (X11_next S16 ).bind fun (x47, S48) =>
        (stF S48 60 6 ((rI S48 60 6) + 1)).bind fun S49 =>
        some ((x47 - 48), S49)).bind fun (x20, S21) =>
      if (a1 + x20) ≤ 64 then rdC S21 a1 x7 x20
      else
      (stF S21 60 6 (rI S3 60 6)).bind fun S44 =>
        some ((-1), S44)
theorem rdB_e (S : St) (a1 a2 : Int32) : X11_reads S a1 a2 = (X11_next S).bind fun (x2, S3) => (X11_in S3 ((x2 : Int32).toInt64) 97 103).bind fun x5 => (if x5 = 0 then some (0 : Int32) else some (x2 - 96)).bind fun x7 => if x7 = 0 then (if x2 = 45 then (if a2 = 40 then some ((-1), S3) else rdB S3 a1 x7) else some ((-1), S3)) else if a2 = 40 then some ((-1), S3) else rdB S3 a1 x7 := rfl
section RDB
variable {t : Nat} {b : Nat → Nat}
theorem rdC_ok (ht : t ≤ 120) (hb : ∀ k, k < t → 32 ≤ b k ∧ b k ≤ 126) {p L l : Nat} {F : Nat → Nat} {T : St} (hL : L + mm t b p ≤ 64) (hp : p < t) (hc : MP t b T (p3 t b p) L F) : ∃ T', rdC T (nI L) (nI l) (nI (mm t b p)) = some (nI (L + mm t b p), T') ∧ Un [60, 66] T T' ∧ MP t b T' (p5 t b p) (L + mm t b p) (Fn L (mm t b p) l (decide (ch t b (p4 t b p) = 46)) F) := by
  have m1 := mm_b (t := t) (b := b) p
  obtain ⟨T1, a1, a2, a3⟩ := mfill_r (l := l) hL hc
  obtain ⟨T2, b1, b2, b3⟩ := next_ok ht hb (p3_le hb hp) a2
  have hbn := ch_b ht hb (p4 t b p)
  have ei : nI L + nI (mm t b p) - 1 = nI (L + mm t b p - 1) := by
    rw [nI_add]
    exact pk_sub (b := 1) (by omega)
  have eFl : Fn L (mm t b p) l false F (L + mm t b p - 1) = l := by
    unfold Fn
    rw [if_pos (by omega), if_neg (by simp)]
    rfl
  obtain ⟨T3, c1, c2, c3⟩ : ∃ T3, (if nI (ch t b (p4 t b p)) = 46 then (ldA T2 66 ((nI L + nI (mm t b p)) - 1)).bind fun x37 => (stA T2 66 ((nI L + nI (mm t b p)) - 1) (x37 + 10)).bind fun S39 => (stF S39 60 6 ((rI S39 60 6) + 1)).bind fun S41 => some S41 else some T2) = some T3 ∧ MP t b T3 (p5 t b p) (L + mm t b p) (Fn L (mm t b p) l (decide (ch t b (p4 t b p) = 46)) F) ∧ Un [60, 66] T2 T3 := by
    by_cases h : ch t b (p4 t b p) = 46
    · refine ⟨wI (wI T2 66 (L + mm t b p - 1) (nI (l + 10))) 60 6 (nI (p4 t b p + 1)), ?_, ?_, (Un.wI _ _ _ _ (by simp)).trs (Un.wI _ _ _ _ (by simp))⟩
      · rw [if_pos (by rw [h]; rfl), ei]
        refine (bd ((ldA_s T2 66 (L + mm t b p - 1) rfl rfl (by show _ < 64; omega)).trans (congrArg some ((b2.2.2 _ (by omega)).trans (congrArg nI eFl))))).trans ?_
        refine (bd (stA_s T2 66 (L + mm t b p - 1) _ rfl rfl (by show _ < 64; omega))).trans ?_
        rw [rI_wI_a (by decide), show rI T2 60 6 = nI (p4 t b p) from b2.2.1, nI_1, show nI l + 10 = nI (l + 10) from nI_add l 10]
        rfl
      · have hd : decide (ch t b (p4 t b p) = 46) = true := by simp [h]
        rw [hd]
        unfold p5
        rw [if_pos h]
        refine ⟨⟨?_, fun k hk => ?_⟩, rI_wI_s _ _ _ _, fun k hk => ?_⟩
        · rw [rI_wI_k (by decide), rI_wI_a (by decide)]
          exact b2.1.1
        · rw [rI_wI_a (by decide), rI_wI_a (by decide)]
          exact b2.1.2 k hk
        · rw [rI_wI_a (by decide), rI_wI]
          by_cases hk2 : k = L + mm t b p - 1
          · rw [if_pos ⟨rfl, hk2⟩]
            unfold Fn
            rw [if_pos (by omega), if_pos ⟨rfl, hk2⟩]
          · rw [if_neg (fun z => hk2 z.2), b2.2.2 k hk]
            unfold Fn
            by_cases hk3 : L ≤ k ∧ k < L + mm t b p
            · rw [if_pos hk3, if_pos hk3, if_neg (fun z => hk2 z.2), if_neg (fun z => hk2 z.2)]
            · rw [if_neg hk3, if_neg hk3]
    · refine ⟨T2, if_neg (fun z => h ((nI_eq (b := 46) (by omega) (by decide)).mp z)), ?_, Un.rf _ _⟩
      have hd : decide (ch t b (p4 t b p) = 46) = false := by simp [h]
      rw [hd]
      unfold p5
      rw [if_neg h]
      exact b2
  refine ⟨T3, ?_, (a3.mono (by simp)).trs ((b3.mono (by simp)).trs c3), c2⟩
  unfold rdC
  refine (bd a1).trans ?_
  refine (bd b1).trans ?_
  refine (bd c1).trans ?_
  rw [nI_add]
theorem rdB_ok (ht : t ≤ 120) (hb : ∀ k, k < t → 32 ≤ b k ∧ b k ≤ 126) {p L l : Nat} {F : Nat → Nat} {T : St} (hL : L ≤ 64) (hp : p < t) (hc : MP t b T p L F) : ∃ T', Un [60, 66] T T' ∧ ((64 < L + mm t b p ∧ rdB T (nI L) (nI l) = some (-1, T') ∧ rI T' 60 6 = nI p) ∨ (¬ (64 < L + mm t b p) ∧ rdB T (nI L) (nI l) = some (nI (L + mm t b p), T') ∧ MP t b T' (p5 t b p) (L + mm t b p) (Fn L (mm t b p) l (decide (ch t b (p4 t b p) = 46)) F))) := by
  have c3 : rI T 60 6 = nI p := hc.2.1
  have k1 := sk_le (t := t) (b := b) (p := p + 1) (by omega)
  obtain ⟨T1, a1, a2, a3⟩ := next_ok ht hb (T := wI T 60 6 (nI (p + 1))) (p := p + 1) (by omega) (hc.pl (p + 1))
  have m1 := mm_b (t := t) (b := b) p
  have hbn := ch_b ht hb (sk t b (p + 1))
  obtain ⟨T2, d1, d2, d3⟩ : ∃ T2, ((X11_in T1 ((nI (ch t b (sk t b (p + 1)))).toInt64) 49 57).bind fun x18 => (if x18 = 0 then some ((1 : Int32), T1) else (X11_next T1).bind fun (x47, S48) => (stF S48 60 6 ((rI S48 60 6) + 1)).bind fun S49 => some ((x47 - 48), S49))) = some (nI (mm t b p), T2) ∧ MP t b T2 (p3 t b p) L F ∧ Un [60] T1 T2 := by
    rw [md T1 (nI (ch t b (sk t b (p + 1)))) 49 57 49 57, nT (by omega)]
    by_cases hd : 49 ≤ ch t b (sk t b (p + 1)) ∧ ch t b (sk t b (p + 1)) ≤ 57
    · obtain ⟨T2, b1, b2, b3⟩ := next_ok ht hb k1.2.1 a2
      rw [sk_sk (by omega)] at b1 b2
      refine ⟨wI T2 60 6 (nI (sk t b (p + 1) + 1)), ?_, ?_, b3.trs (Un.wI _ _ _ _ (by simp))⟩
      · rw [if_pos (by omega)]
        refine (bd b1).trans ?_
        unfold mm
        rw [if_pos hd]
        show (stF T2 60 6 ((rI T2 60 6) + 1)).bind _ = _
        rw [show rI T2 60 6 = nI (sk t b (p + 1)) from b2.2.1, nI_1, show nI (ch t b (sk t b (p + 1))) - 48 = nI (ch t b (sk t b (p + 1)) - 48) from pk_sub (b := 48) (by omega)]
        rfl
      · unfold p3
        rw [if_pos hd]
        exact b2.pl _
    · refine ⟨T1, ?_, ?_, Un.rf _ _⟩
      · rw [if_neg (by omega)]
        unfold mm
        rw [if_neg hd]
        rfl
      · unfold p3
        rw [if_neg hd]
        exact a2
  have e0 : rdB T (nI L) (nI l) = if nI L + nI (mm t b p) ≤ 64 then rdC T2 (nI L) (nI l) (nI (mm t b p)) else some (-1, wI T2 60 6 (nI p)) := by
    unfold rdB
    rw [c3, nI_1]
    refine (bd (rfl : stF T 60 6 (nI (p + 1)) = some (wI T 60 6 (nI (p + 1))))).trans ?_
    refine (bd a1).trans ?_
    have d1' := congrArg (fun o => Option.bind o (fun (w : Int32 × St) => if (nI L + w.1) ≤ 64 then rdC w.2 (nI L) (nI l) w.1 else (stF w.2 60 6 (nI p)).bind fun S44 => some ((-1 : Int32), S44))) d1
    have d1' := d1'
    rw [Option.bind_assoc] at d1'
    exact d1'
  have u2 : Un [60, 66] T T2 := (Un.wI _ _ _ _ (by simp)).trs ((a3.mono (by simp)).trs (d3.mono (by simp)))
  by_cases h0 : 64 < L + mm t b p
  · refine ⟨wI T2 60 6 (nI p), u2.trs (Un.wI _ _ _ _ (by simp)), Or.inl ⟨h0, ?_, rI_wI_s _ _ _ _⟩⟩
    rw [e0, nI_add]
    exact if_neg (fun z => by have := (nI_leI (b := 64) (by omega) (by decide)).mp z; omega)
  · obtain ⟨T3, f1, f2, f3⟩ := rdC_ok ht hb (T := T2) (p := p) (L := L) (l := l) (F := F) (by omega) hp d2
    refine ⟨T3, u2.trs f2, Or.inr ⟨h0, ?_, f3⟩⟩
    rw [e0, nI_add]
    exact (if_pos (nI_le (b := 64) (by omega) (by decide))).trans f1
theorem reads_ok (ht : t ≤ 120) (hb : ∀ k, k < t → 32 ≤ b k ∧ b k ≤ 126) {s p L : Nat} {F : Nat → Nat} {T : St} (hs : s ≤ 40) (hL : L ≤ 64) (hp : p ≤ t) (hc : MP t b T p L F) : ∃ T', Un [60, 66] T T' ∧ ((∃ q, rs t b s p L F = .inl q ∧ X11_reads T (nI L) (nI s) = some (-1, T') ∧ rI T' 60 6 = nI q) ∨ (∃ q L' F', rs t b s p L F = .inr (q, L', F') ∧ X11_reads T (nI L) (nI s) = some (nI L', T') ∧ MP t b T' q L' F')) := by
  obtain ⟨T1, a1, a2, a3⟩ := next_ok ht hb hp hc
  have k1 := sk_le (t := t) (b := b) hp
  have hbn := ch_b ht hb (sk t b p)
  have h0 := ch_0 hb (sk t b p)
  have eX : X11_reads T (nI L) (nI s) = if vl (ch t b (sk t b p)) then (if s = 40 then some (-1, T1) else rdB T1 (nI L) (nI (le_ (ch t b (sk t b p))))) else some (-1, T1) := by
    rw [rdB_e]
    refine (bd a1).trans ?_
    show ((X11_in T1 ((nI (ch t b (sk t b p))).toInt64) 97 103).bind fun x5 => (if x5 = 0 then some (0 : Int32) else some (nI (ch t b (sk t b p)) - 96)).bind fun x7 => if x7 = 0 then (if nI (ch t b (sk t b p)) = 45 then (if nI s = 40 then some ((-1), T1) else rdB T1 (nI L) x7) else some ((-1), T1)) else if nI s = 40 then some ((-1), T1) else rdB T1 (nI L) x7) = _
    rw [in32 T1 (nI (ch t b (sk t b p))) 97 103 97 103, nT (by omega)]
    have e40 : nI s = 40 ↔ s = 40 := nI_eq (b := 40) (by omega) (by decide)
    have e45 : nI (ch t b (sk t b p)) = 45 ↔ ch t b (sk t b p) = 45 := nI_eq (b := 45) (by omega) (by decide)
    by_cases y : 97 ≤ ch t b (sk t b p) ∧ ch t b (sk t b p) ≤ 103
    · rw [if_pos (by omega), if_pos (Or.inr y)]
      refine (bd (rfl : some (1 : Int32) = some 1)).trans ?_
      refine (bd (if_neg (by decide))).trans ?_
      rw [show nI (ch t b (sk t b p)) - 96 = nI (ch t b (sk t b p) - 96) from pk_sub (b := 96) (by omega)]
      refine (if_neg (nI_ne0 (by omega) (by omega))).trans ?_
      unfold le_
      rw [if_neg (show ¬ ch t b (sk t b p) = 45 by omega)]
      by_cases z : s = 40
      · rw [if_pos (e40.mpr z), if_pos z]
      · rw [if_neg (fun w => z (e40.mp w)), if_neg z]
    · rw [if_neg (by omega)]
      show (if nI (ch t b (sk t b p)) = 45 then (if nI s = 40 then some ((-1), T1) else rdB T1 (nI L) 0) else some ((-1), T1)) = _
      by_cases y1 : ch t b (sk t b p) = 45
      · rw [if_pos (e45.mpr y1), if_pos (Or.inl y1)]
        unfold le_
        rw [if_pos y1]
        by_cases z : s = 40
        · rw [if_pos (e40.mpr z), if_pos z]
        · rw [if_neg (fun w => z (e40.mp w)), if_neg z]
          rfl
      · rw [if_neg (fun w => y1 (e45.mp w)), if_neg (fun (w : _ ∨ _) => by omega)]
  by_cases hv : vl (ch t b (sk t b p))
  · have hne : ch t b (sk t b p) ≠ 0 := by
      have hv : ch t b (sk t b p) = 45 ∨ (97 ≤ ch t b (sk t b p) ∧ ch t b (sk t b p) ≤ 103) := hv
      omega
    rw [if_pos hv] at eX
    have er : rs t b s p L F = if s = 40 ∨ 64 < L + mm t b (sk t b p) then .inl (sk t b p) else .inr (p5 t b (sk t b p), L + mm t b (sk t b p), Fn L (mm t b (sk t b p)) (le_ (ch t b (sk t b p))) (decide (ch t b (p4 t b (sk t b p)) = 46)) F) := if_pos hv
    by_cases z : s = 40
    · rw [if_pos z] at eX
      exact ⟨T1, a3.mono (by simp), Or.inl ⟨sk t b p, by rw [er, if_pos (Or.inl z)], eX, a2.2.1⟩⟩
    · rw [if_neg z] at eX
      obtain ⟨T2, u2, g⟩ := rdB_ok (l := le_ (ch t b (sk t b p))) ht hb hL (show sk t b p < t by omega) a2
      refine ⟨T2, (a3.mono (by simp)).trs u2, ?_⟩
      rcases g with ⟨g1, g2, g3⟩ | ⟨g1, g2, g3⟩
      · exact Or.inl ⟨_, by rw [er, if_pos (Or.inr g1)], by rw [eX, g2], g3⟩
      · exact Or.inr ⟨_, _, _, by rw [er, if_neg (by omega)], by rw [eX, g2], g3⟩
  · rw [if_neg hv] at eX
    exact ⟨T1, a3.mono (by simp), Or.inl ⟨sk t b p, if_neg hv, eX, a2.2.1⟩⟩
end RDB
