/-! image, restore -/
theorem cI_s (S : St) (a b : Nat) {n j : Nat} (h : j < n) : rI (cI S a 0 b 0 n) b j = rI S a j := by
  show (if b = b then va_cpy (S.1 a) (S.1 b) 0 0 n j else S.1 b j) = S.1 a j
  rw [if_pos rfl, pk_cpy_in (Nat.zero_le j) (by omega), Nat.zero_add, Nat.sub_zero]
theorem cI_a (S : St) (a b : Nat) {n x j : Nat} (h : x ≠ b) : rI (cI S a 0 b 0 n) x j = rI S x j := if_neg h
theorem cJ_s (S : St) (a b : Nat) {n j : Nat} (h : j < n) : rJ (cJ S a 0 b 0 n) b j = rJ S a j := by
  show (if b = b then va_cpy (S.2.1 a) (S.2.1 b) 0 0 n j else S.2.1 b j) = S.2.1 a j
  rw [if_pos rfl, pk_cpy_in (Nat.zero_le j) (by omega), Nat.zero_add, Nat.sub_zero]
/-- of kind g, of length n, there -/
def At (S : St) (x g n : Nat) : Prop := kk_ x = g ∧ kl x = n ∧ x ∈ ids S
theorem cpI_ok {S : St} {a b n : Nat} (ha : At S a 1 n) (hb : At S b 1 n) (hn : n < 2 ^ 31) : cpI S a 0 b 0 (nI n) = some (cI S a 0 b 0 n) := by
  unfold cpI
  have e0 : (0 : Int32).toNatClampNeg = 0 := rfl
  have en := nI_clamp hn
  rw [e0, en, if_pos ⟨⟨ha.1, ha.2.2⟩, ⟨hb.1, hb.2.2⟩, ⟨by decide, by decide, nI_pos hn⟩, by rw [ha.2.1]; omega, by rw [hb.2.1]; omega⟩]
theorem cpJ_ok {S : St} {a b n : Nat} (ha : At S a 2 n) (hb : At S b 2 n) (hn : n < 2 ^ 31) : cpJ S a 0 b 0 (nI n) = some (cJ S a 0 b 0 n) := by
  unfold cpJ
  have e0 : (0 : Int32).toNatClampNeg = 0 := rfl
  have en := nI_clamp hn
  rw [e0, en, if_pos ⟨⟨ha.1, ha.2.2⟩, ⟨hb.1, hb.2.2⟩, ⟨by decide, by decide, nI_pos hn⟩, by rw [ha.2.1]; omega, by rw [hb.2.1]; omega⟩]
theorem al_ok {S : St} {b n : Nat} (hb : At S b 1 n) : alO S b = some (nI n) := by
  unfold alO
  rw [if_pos ⟨hb.1, hb.2.2⟩, hb.2.1]
  rfl
theorem alL_ok {S : St} {b n : Nat} (hb : At S b 2 n) : alL S b = some (nI n) := by
  unfold alL
  rw [if_pos ⟨hb.1, hb.2.2⟩, hb.2.1]
  rfl
theorem ck_ok {S : St} {b n : Nat} (hb : At S b 0 n) : ckO S b n = some () := ckO_e hb.1 hb.2.1 hb.2.2
theorem t6_ok {S : St} {p q : Nat} (hpq : p + 3 < q ∨ q + 3 < p) (hp : At S p 0 6 ∧ At S (p + 1) 1 48 ∧ At S (p + 2) 1 64 ∧ At S (p + 3) 1 56) (hq : At S q 0 6 ∧ At S (q + 1) 1 48 ∧ At S (q + 2) 1 64 ∧ At S (q + 3) 1 56) : ∃ T, X6_take S p q = some T ∧ Un [p, p + 1, p + 2, p + 3] S T ∧ (∀ j, j < 3 → rI T p j = rI S q j) ∧ (∀ j, j < 48 → rI T (p + 1) j = rI S (q + 1) j) ∧ (∀ j, j < 64 → rI T (p + 2) j = rI S (q + 2) j) ∧ (∀ j, j < 56 → rI T (p + 3) j = rI S (q + 3) j) := by
  obtain ⟨S1, e1⟩ : ∃ S1, S1 = wI S p 0 (rI S q 0) := ⟨_, rfl⟩
  obtain ⟨S2, e2⟩ : ∃ S2, S2 = wI S1 p 1 (rI S1 q 1) := ⟨_, rfl⟩
  obtain ⟨S3, e3⟩ : ∃ S3, S3 = wI S2 p 2 (rI S2 q 2) := ⟨_, rfl⟩
  obtain ⟨S4, e4⟩ : ∃ S4, S4 = cI S3 (q + 1) 0 (p + 1) 0 48 := ⟨_, rfl⟩
  obtain ⟨S5, e5⟩ : ∃ S5, S5 = cI S4 (q + 2) 0 (p + 2) 0 64 := ⟨_, rfl⟩
  obtain ⟨S6, e6⟩ : ∃ S6, S6 = cI S5 (q + 3) 0 (p + 3) 0 56 := ⟨_, rfl⟩
  have i1 : ids S1 = ids S := by rw [e1]; rfl
  have i2 : ids S2 = ids S := by rw [e2, ← i1]; rfl
  have i3 : ids S3 = ids S := by rw [e3, ← i2]; rfl
  have i4 : ids S4 = ids S := by rw [e4, ← i3]; rfl
  have i5 : ids S5 = ids S := by rw [e5, ← i4]; rfl
  have m : ∀ {S' : St} {x g n : Nat}, ids S' = ids S → At S x g n → At S' x g n := fun h a => ⟨a.1, a.2.1, by rw [h]; exact a.2.2⟩
  refine ⟨S6, ?_, ?_, ?_, ?_, ?_, ?_⟩
  · unfold X6_take
    refine (bd (ck_ok hq.1)).trans ?_
    refine (bd (ck_ok hp.1)).trans ?_
    refine (bd (congrArg some e1.symm : stF S p 0 (rI S q 0) = some S1)).trans ?_
    refine (bd (ck_ok (m i1 hq.1))).trans ?_
    refine (bd (ck_ok (m i1 hp.1))).trans ?_
    refine (bd (congrArg some e2.symm : stF S1 p 1 (rI S1 q 1) = some S2)).trans ?_
    refine (bd (ck_ok (m i2 hq.1))).trans ?_
    refine (bd (ck_ok (m i2 hp.1))).trans ?_
    refine (bd (congrArg some e3.symm : stF S2 p 2 (rI S2 q 2) = some S3)).trans ?_
    refine (bd (ck_ok (m i3 hq.1))).trans ?_
    refine (bd (ck_ok (m i3 hp.1))).trans ?_
    refine (bd (ck_ok (m i3 hp.1))).trans ?_
    refine (bd (al_ok (m i3 hp.2.1))).trans ?_
    refine (bd ((cpI_ok (m i3 hq.2.1) (m i3 hp.2.1) (by decide)).trans (congrArg some e4.symm))).trans ?_
    refine (bd (ck_ok (m i4 hq.1))).trans ?_
    refine (bd (ck_ok (m i4 hp.1))).trans ?_
    refine (bd (ck_ok (m i4 hp.1))).trans ?_
    refine (bd (al_ok (m i4 hp.2.2.1))).trans ?_
    refine (bd ((cpI_ok (m i4 hq.2.2.1) (m i4 hp.2.2.1) (by decide)).trans (congrArg some e5.symm))).trans ?_
    refine (bd (ck_ok (m i5 hq.1))).trans ?_
    refine (bd (ck_ok (m i5 hp.1))).trans ?_
    refine (bd (ck_ok (m i5 hp.1))).trans ?_
    refine (bd (al_ok (m i5 hp.2.2.2))).trans ?_
    exact bd ((cpI_ok (m i5 hq.2.2.2) (m i5 hp.2.2.2) (by decide)).trans (congrArg some e6.symm))
  · rw [e6, e5, e4, e3, e2, e1]
    exact (Un.wI _ _ _ _ (by simp)).trs ((Un.wI _ _ _ _ (by simp)).trs ((Un.wI _ _ _ _ (by simp)).trs ((Un.cI _ _ _ _ _ _ (by simp)).trs ((Un.cI _ _ _ _ _ _ (by simp)).trs (Un.cI _ _ _ _ _ _ (by simp))))))
  · intro j hj
    rw [e6, cI_a _ _ _ (by omega), e5, cI_a _ _ _ (by omega), e4, cI_a _ _ _ (by omega), e3, rI_wI]
    by_cases h2 : j = 2
    · rw [if_pos ⟨rfl, h2⟩, e2, rI_wI_a (by omega), e1, rI_wI_a (by omega), h2]
    · rw [if_neg (by omega), e2, rI_wI]
      by_cases h1 : j = 1
      · rw [if_pos ⟨rfl, h1⟩, e1, rI_wI_a (by omega), h1]
      · rw [if_neg (by omega), e1, rI_wI, if_pos ⟨rfl, by omega⟩, show j = 0 by omega]
  · intro j hj
    rw [e6, cI_a _ _ _ (by omega), e5, cI_a _ _ _ (by omega), e4, cI_s _ _ _ hj, e3, rI_wI_a (by omega), e2, rI_wI_a (by omega), e1, rI_wI_a (by omega)]
  · intro j hj
    rw [e6, cI_a _ _ _ (by omega), e5, cI_s _ _ _ hj, e4, cI_a _ _ _ (by omega), e3, rI_wI_a (by omega), e2, rI_wI_a (by omega), e1, rI_wI_a (by omega)]
  · intro j hj
    rw [e6, cI_s _ _ _ hj, e5, cI_a _ _ _ (by omega), e4, cI_a _ _ _ (by omega), e3, rI_wI_a (by omega), e2, rI_wI_a (by omega), e1, rI_wI_a (by omega)]
theorem t5_ok {S : St} {p q : Nat} (hpq : p + 1 < q ∨ q + 1 < p) (hp : At S p 0 5 ∧ At S (p + 1) 1 64) (hq : At S q 0 5 ∧ At S (q + 1) 1 64) : ∃ T, X5_take S p q = some T ∧ Un [p, p + 1] S T ∧ rI T p 0 = rI S q 0 ∧ (∀ j, j < 64 → rI T (p + 1) j = rI S (q + 1) j) := by
  obtain ⟨S1, e1⟩ : ∃ S1, S1 = wI S p 0 (rI S q 0) := ⟨_, rfl⟩
  obtain ⟨S2, e2⟩ : ∃ S2, S2 = cI S1 (q + 1) 0 (p + 1) 0 64 := ⟨_, rfl⟩
  have i1 : ids S1 = ids S := by rw [e1]; rfl
  have m : ∀ {S' : St} {x g n : Nat}, ids S' = ids S → At S x g n → At S' x g n := fun h a => ⟨a.1, a.2.1, by rw [h]; exact a.2.2⟩
  refine ⟨S2, ?_, ?_, ?_, ?_⟩
  · unfold X5_take
    refine (bd (ck_ok hq.1)).trans ?_
    refine (bd (ck_ok hp.1)).trans ?_
    refine (bd (congrArg some e1.symm : stF S p 0 (rI S q 0) = some S1)).trans ?_
    refine (bd (ck_ok (m i1 hq.1))).trans ?_
    refine (bd (ck_ok (m i1 hp.1))).trans ?_
    refine (bd (ck_ok (m i1 hp.1))).trans ?_
    refine (bd (al_ok (m i1 hp.2))).trans ?_
    exact bd ((cpI_ok (m i1 hq.2) (m i1 hp.2) (by decide)).trans (congrArg some e2.symm))
  · rw [e2, e1]
    exact (Un.wI _ _ _ _ (by simp)).trs (Un.cI _ _ _ _ _ _ (by simp))
  · rw [e2, cI_a _ _ _ (by omega), e1, rI_wI_s]
  · intro j hj
    rw [e2, cI_s _ _ _ hj, e1, rI_wI_a (by omega)]
theorem t3_ok {S : St} {p q : Nat} (hpq : p + 1 < q ∨ q + 1 < p) (hp : At S p 0 3 ∧ At S (p + 1) 2 8) (hq : At S q 0 3 ∧ At S (q + 1) 2 8) : ∃ T, X3_take S p q = some T ∧ Un [p, p + 1] S T ∧ rI T p 0 = rI S q 0 ∧ (∀ j, j < 8 → rJ T (p + 1) j = rJ S (q + 1) j) := by
  obtain ⟨S1, e1⟩ : ∃ S1, S1 = wI S p 0 (rI S q 0) := ⟨_, rfl⟩
  obtain ⟨S2, e2⟩ : ∃ S2, S2 = cJ S1 (q + 1) 0 (p + 1) 0 8 := ⟨_, rfl⟩
  have i1 : ids S1 = ids S := by rw [e1]; rfl
  have m : ∀ {S' : St} {x g n : Nat}, ids S' = ids S → At S x g n → At S' x g n := fun h a => ⟨a.1, a.2.1, by rw [h]; exact a.2.2⟩
  refine ⟨S2, ?_, ?_, ?_, ?_⟩
  · unfold X3_take
    refine (bd (ck_ok hq.1)).trans ?_
    refine (bd (ck_ok hp.1)).trans ?_
    refine (bd (congrArg some e1.symm : stF S p 0 (rI S q 0) = some S1)).trans ?_
    refine (bd (ck_ok (m i1 hq.1))).trans ?_
    refine (bd (ck_ok (m i1 hp.1))).trans ?_
    refine (bd (ck_ok (m i1 hp.1))).trans ?_
    refine (bd (alL_ok (m i1 hp.2))).trans ?_
    exact bd ((cpJ_ok (m i1 hq.2) (m i1 hp.2) (by decide)).trans (congrArg some e2.symm))
  · rw [e2, e1]
    exact (Un.wI _ _ _ _ (by simp)).trs (Un.cJ _ _ _ _ _ _ (by simp))
  · rw [e2]
    show rI S1 p 0 = _
    rw [e1, rI_wI_s]
  · intro j hj
    rw [e2, cJ_s _ _ _ hj, e1]
    rfl
def Blk (S : St) (c : Nat) : Prop := At S c 0 1 ∧ (At S (c + 1) 0 6 ∧ At S (c + 2) 1 48 ∧ At S (c + 3) 1 64 ∧ At S (c + 4) 1 56) ∧ (At S (c + 5) 0 5 ∧ At S (c + 6) 1 64) ∧ (At S (c + 7) 0 3 ∧ At S (c + 8) 2 8)
theorem blk1 (S : St) : Blk S 1 := by
  have i : ∀ x, decide (x ∈ sid) = true → x ∈ ids S := fun x h => in_sid S h
  exact ⟨⟨rfl, rfl, i _ rfl⟩, ⟨⟨rfl, rfl, i _ rfl⟩, ⟨rfl, rfl, i _ rfl⟩, ⟨rfl, rfl, i _ rfl⟩, ⟨rfl, rfl, i _ rfl⟩⟩, ⟨⟨rfl, rfl, i _ rfl⟩, ⟨rfl, rfl, i _ rfl⟩⟩, ⟨⟨rfl, rfl, i _ rfl⟩, ⟨rfl, rfl, i _ rfl⟩⟩⟩
theorem blkI (S : St) {n : Nat} (hn : n < 2) (h : rR S 10 n ≠ 0) : Blk S (42 + 9 * n) := by
  have hn : n = 0 ∨ n = 1 := by omega
  rcases hn with rfl | rfl
  · have i : ∀ x, decide (x ∈ List.range' 42 9) = true → x ∈ ids S := fun x hx => by
      unfold ids
      rw [if_neg h]
      exact List.mem_append_right _ (List.mem_append_left _ (of_decide_eq_true hx))
    exact ⟨⟨rfl, rfl, i _ rfl⟩, ⟨⟨rfl, rfl, i _ rfl⟩, ⟨rfl, rfl, i _ rfl⟩, ⟨rfl, rfl, i _ rfl⟩, ⟨rfl, rfl, i _ rfl⟩⟩, ⟨⟨rfl, rfl, i _ rfl⟩, ⟨rfl, rfl, i _ rfl⟩⟩, ⟨⟨rfl, rfl, i _ rfl⟩, ⟨rfl, rfl, i _ rfl⟩⟩⟩
  · have i : ∀ x, decide (x ∈ List.range' 51 9) = true → x ∈ ids S := fun x hx => by
      unfold ids
      rw [if_neg (c := rR S 10 1 = 0) h]
      exact List.mem_append_right _ (List.mem_append_right _ (of_decide_eq_true hx))
    exact ⟨⟨rfl, rfl, i _ rfl⟩, ⟨⟨rfl, rfl, i _ rfl⟩, ⟨rfl, rfl, i _ rfl⟩, ⟨rfl, rfl, i _ rfl⟩, ⟨rfl, rfl, i _ rfl⟩⟩, ⟨⟨rfl, rfl, i _ rfl⟩, ⟨rfl, rfl, i _ rfl⟩⟩, ⟨⟨rfl, rfl, i _ rfl⟩, ⟨rfl, rfl, i _ rfl⟩⟩⟩
theorem Un.ids {L : List Nat} {S T : St} (h : Un L S T) (h10 : 10 ∉ L) : ids T = ids S := by
  show (sid ++ ((if rR T 10 0 = 0 then [] else List.range' 42 9) ++ (if rR T 10 1 = 0 then [] else List.range' 51 9))) = _
  rw [(h 10 h10).2.2, (h 10 h10).2.2]
  rfl
theorem take_ok {S : St} {p q : Nat} {A : Ch} (hpq : p + 8 < q ∨ q + 8 < p) (h10 : 10 < p ∨ p + 8 < 10) (hp : Blk S p) (hq : Blk S q) (hw : Wf A) (hx : HX S q A) : ∃ T, X1_take S p q = some T ∧ Un (List.range' p 9) S T ∧ HX T p A := by
  have m : ∀ {S' : St} {x g n : Nat}, ids S' = ids S → At S x g n → At S' x g n := fun h a => ⟨a.1, a.2.1, by rw [h]; exact a.2.2⟩
  obtain ⟨p0, p1, p2, p3⟩ := hp
  obtain ⟨q0, q1, q2, q3⟩ := hq
  obtain ⟨S1, a1, a2, a3, a4, a5, a6⟩ := t6_ok (S := S) (p := p + 1) (q := q + 1) (by omega) p1 q1
  have i1 : ids S1 = ids S := a2.ids (by simp <;> omega)
  obtain ⟨S2, b1, b2, b3, b4⟩ := t5_ok (S := S1) (p := p + 5) (q := q + 5) (by omega) ⟨m i1 p2.1, m i1 p2.2⟩ ⟨m i1 q2.1, m i1 q2.2⟩
  have i2 : ids S2 = ids S := (b2.ids (by simp <;> omega)).trans i1
  obtain ⟨S3, c1, c2, c3, c4⟩ := t3_ok (S := S2) (p := p + 7) (q := q + 7) (by omega) ⟨m i2 p3.1, m i2 p3.2⟩ ⟨m i2 q3.1, m i2 q3.2⟩
  have i3 : ids S3 = ids S := (c2.ids (by simp <;> omega)).trans i2
  have k1 : ∀ x, x ≠ p + 1 → x ≠ p + 2 → x ≠ p + 3 → x ≠ p + 4 → x ∉ [p + 1, p + 1 + 1, p + 1 + 2, p + 1 + 3] := fun x h1 h2 h3 h4 => by simp <;> omega
  have k2 : ∀ x, x ≠ p + 5 → x ≠ p + 6 → x ∉ [p + 5, p + 5 + 1] := fun x h1 h2 => by simp <;> omega
  have k3 : ∀ x, x ≠ p + 7 → x ≠ p + 8 → x ∉ [p + 7, p + 7 + 1] := fun x h1 h2 => by simp <;> omega
  refine ⟨wI S3 p 3 (rI S3 q 3), ?_, ?_, ?_⟩
  · unfold X1_take
    refine (bd (ck_ok p0)).trans ?_
    refine (bd (ck_ok q0)).trans ?_
    refine (bd (ck_ok p1.1)).trans ?_
    refine (bd a1).trans ?_
    refine (bd (ck_ok (m i1 p0))).trans ?_
    refine (bd (ck_ok (m i1 q0))).trans ?_
    refine (bd (ck_ok (m i1 p2.1))).trans ?_
    refine (bd b1).trans ?_
    refine (bd (ck_ok (m i2 p0))).trans ?_
    refine (bd (ck_ok (m i2 q0))).trans ?_
    refine (bd (ck_ok (m i2 p3.1))).trans ?_
    refine (bd c1).trans ?_
    refine (bd (ck_ok (m i3 q0))).trans ?_
    exact bd (ck_ok (m i3 p0))
  · have g : ∀ x, (p ≤ x ∧ x < p + 9) → x ∈ List.range' p 9 := fun x h => by rw [List.mem_range'_1]; omega
    refine (a2.mono (fun x hx => g x ?_)).trs ((b2.mono (fun x hx => g x ?_)).trs ((c2.mono (fun x hx => g x ?_)).trs (Un.wI _ _ _ _ (g p (by omega)))))
    · simp at hx; omega
    · simp at hx; omega
    · simp at hx; omega
  · obtain ⟨⟨h1, h2, h3, h4, h5, h6⟩, h7, h8, h9, h10', h11⟩ := hx
    have hn := hw.1
    have hl := hw.2.2.2.2.2.2.2.1
    have hln : A.ln ≤ 8 := hw.2.2.2.2.2.2.2.2.2.1
    have z1 : ∀ x j, x ≠ p → x ≠ p + 7 → x ≠ p + 8 → x ≠ p + 5 → x ≠ p + 6 → rI (wI S3 p 3 (rI S3 q 3)) x j = rI S1 x j := fun x j y1 y2 y3 y4 y5 => by
      rw [rI_wI_a y1, (c2 x (k3 x y2 y3)).1, (b2 x (k2 x y4 y5)).1]
    have z2 : ∀ x j, x ≠ p → x ≠ p + 7 → x ≠ p + 8 → rI (wI S3 p 3 (rI S3 q 3)) x j = rI S2 x j := fun x j y1 y2 y3 => by
      rw [rI_wI_a y1, (c2 x (k3 x y2 y3)).1]
    refine ⟨⟨?_, ?_, ?_, ?_, ?_, ?_⟩, ?_, ?_, ?_, ?_, ?_⟩
    · rw [z1 _ _ (by omega) (by omega) (by omega) (by omega) (by omega), a3 0 (by omega)]; exact h1
    · rw [z1 _ _ (by omega) (by omega) (by omega) (by omega) (by omega), a3 1 (by omega)]; exact h2
    · rw [z1 _ _ (by omega) (by omega) (by omega) (by omega) (by omega), a3 2 (by omega)]; exact h3
    · rw [rI_wI_s, (c2 q (k3 q (by omega) (by omega))).1, (b2 q (k2 q (by omega) (by omega))).1, (a2 q (k1 q (by omega) (by omega) (by omega) (by omega))).1]; exact h4
    · rw [z2 _ _ (by omega) (by omega) (by omega), b3, (a2 _ (k1 _ (by omega) (by omega) (by omega) (by omega))).1]; exact h5
    · rw [rI_wI_a (by omega), c3, (b2 _ (k2 _ (by omega) (by omega))).1, (a2 _ (k1 _ (by omega) (by omega) (by omega) (by omega))).1]; exact h6
    · intro r w g1 g2
      have g1 : r < A.n := g1
      rw [z1 _ _ (by omega) (by omega) (by omega) (by omega) (by omega)]
      exact (a4 (6 * r + w) (by omega)).trans (h7 r w g1 g2)
    · intro f t g1 g2
      rw [z1 _ _ (by omega) (by omega) (by omega) (by omega) (by omega)]
      exact (a5 (8 * f + t) (by omega)).trans (h8 f t g1 g2)
    · intro d f g1 g2
      rw [z1 _ _ (by omega) (by omega) (by omega) (by omega) (by omega)]
      exact (a6 (8 * d + f) (by omega)).trans (h9 d f g1 g2)
    · intro k g
      have g : k < A.len := g
      rw [z2 _ _ (by omega) (by omega) (by omega)]
      refine (b4 k (by omega)).trans ?_
      rw [(a2 _ (k1 _ (by omega) (by omega) (by omega) (by omega))).1]
      exact h10' k g
    · intro k g
      have g : k < A.ln := g
      rw [rJ_wI]
      refine (c4 k (by omega)).trans ?_
      rw [(b2 _ (k2 _ (by omega) (by omega))).2.1, (a2 _ (k1 _ (by omega) (by omega) (by omega) (by omega))).2.1]
      exact h11 k g
