/-! THE PURE PART. The abstract state of a choir; that the class's cells and the reference's rows hold it -/
/-- rooms, their values, wires, lost words, pace, fit, most, beats of the piece, sounds, loss rows, their bits -/
abbrev Ch : Type := Nat × (Nat → Nat → Nat) × (Nat → Nat → Nat) × (Nat → Nat → Nat → Bool) × Nat × Nat × Nat × Nat × (Nat → Nat) × Nat × (Nat → Int64)
abbrev Ch.n (A : Ch) : Nat := A.1
abbrev Ch.val (A : Ch) : Nat → Nat → Nat := A.2.1
abbrev Ch.wire (A : Ch) : Nat → Nat → Nat := A.2.2.1
abbrev Ch.lo (A : Ch) : Nat → Nat → Nat → Bool := A.2.2.2.1
abbrev Ch.pace (A : Ch) : Nat := A.2.2.2.2.1
abbrev Ch.fit (A : Ch) : Nat := A.2.2.2.2.2.1
abbrev Ch.most (A : Ch) : Nat := A.2.2.2.2.2.2.1
abbrev Ch.len (A : Ch) : Nat := A.2.2.2.2.2.2.2.1
abbrev Ch.snd (A : Ch) : Nat → Nat := A.2.2.2.2.2.2.2.2.1
abbrev Ch.ln (A : Ch) : Nat := A.2.2.2.2.2.2.2.2.2.1
abbrev Ch.los (A : Ch) : Nat → Int64 := A.2.2.2.2.2.2.2.2.2.2
def mostN (w : Nat) : Nat := ([5, 99, 100, 999, 400, 63] : List Nat).getD w 0
/-- the bits of p below n -/
def mask (p : Nat → Bool) : Nat → Nat
  | 0 => 0
  | n + 1 => mask p n + if p n then 2 ^ n else 0
def Wf (A : Ch) : Prop :=
  A.n ≤ 8 ∧ (∀ r w, r < A.n → w < 6 → A.val r w ≤ mostN w) ∧ (∀ f t, f < 8 → t < 8 → A.wire f t ≤ 400) ∧ (∀ f, f < 8 → A.wire f f = 0) ∧ (1 ≤ A.pace ∧ A.pace ≤ 2000) ∧ A.fit ≤ 127 ∧ (1 ≤ A.most ∧ A.most ≤ 7) ∧
  A.len ≤ 64 ∧ (∀ k, k < A.len → A.snd k % 10 ≤ 7 ∧ A.snd k ≤ 17) ∧ A.ln ≤ 8 ∧ (∀ k, k < A.ln → 0 ≤ (A.los k).toInt ∧ (A.los k).toInt < 281474976710656)
/-- the class's cells from c on hold A -/
def HX (S : St) (c : Nat) (A : Ch) : Prop :=
  (rI S (c + 1) 0 = nI A.n ∧ rI S (c + 1) 1 = nI A.pace ∧ rI S (c + 1) 2 = nI A.most ∧ rI S c 3 = nI A.fit ∧ rI S (c + 5) 0 = nI A.len ∧ rI S (c + 7) 0 = nI A.ln) ∧
  (∀ r w, r < A.n → w < 6 → rI S (c + 2) (6 * r + w) = nI (A.val r w)) ∧ (∀ f t, f < 8 → t < 8 → rI S (c + 3) (8 * f + t) = nI (A.wire f t)) ∧
  (∀ d f, d < 7 → f < 8 → rI S (c + 4) (8 * d + f) = nI (mask (A.lo d f) 8)) ∧ (∀ k, k < A.len → rI S (c + 6) k = nI (A.snd k)) ∧ (∀ k, k < A.ln → rJ S (c + 8) k = A.los k)
/-- the reference's row a from o on, and its long row la from lo on, hold A -/
def HM (S : St) (a o la lo : Nat) (A : Ch) : Prop :=
  (rI S a o = nI A.n ∧ rI S a (o + 128) = nI A.pace ∧ rI S a (o + 131) = nI A.most ∧ rI S a (o + 129) = nI A.fit ∧ rI S a (o + 130) = nI A.len ∧ rI S a (o + 132) = nI A.ln) ∧
  (∀ r w, r < A.n → w < 6 → rI S a (o + 8 + 6 * r + w) = nI (A.val r w)) ∧ (∀ r w, A.n ≤ r → r < 8 → 3 ≤ w → w < 6 → rI S a (o + 8 + 6 * r + w) = 0) ∧
  (∀ f t, f < 8 → t < 8 → rI S a (o + 64 + 8 * f + t) = nI (A.wire f t)) ∧ (∀ d f t, d < 7 → f < 8 → t < 8 → rI S a (o + 200 + 64 * d + 8 * f + t) = if A.lo d f t then 1 else 0) ∧
  (∀ k, k < A.len → rI S a (o + 136 + k) = nI (A.snd k)) ∧ (∀ k, k < A.ln → rJ S la (lo + k) = A.los k)
/-- what two states share: all cells but those of L -/
def Un (L : List Nat) (S S' : St) : Prop := ∀ x, x ∉ L → (∀ j, rI S' x j = rI S x j) ∧ (∀ j, rJ S' x j = rJ S x j) ∧ (∀ j, rR S' x j = rR S x j)
theorem Un.rf (L : List Nat) (S : St) : Un L S S := fun _ _ => ⟨fun _ => rfl, fun _ => rfl, fun _ => rfl⟩
theorem Un.tr {L M : List Nat} {S S' S'' : St} (h : Un L S S') (h' : Un M S' S'') : Un (L ++ M) S S'' := fun x hx => by
  have h1 := h x (fun z => hx (List.mem_append_left _ z))
  have h2 := h' x (fun z => hx (List.mem_append_right _ z))
  exact ⟨fun j => (h2.1 j).trans (h1.1 j), fun j => (h2.2.1 j).trans (h1.2.1 j), fun j => (h2.2.2 j).trans (h1.2.2 j)⟩
theorem Un.trs {L : List Nat} {S S' S'' : St} (h : Un L S S') (h' : Un L S' S'') : Un L S S'' := fun x hx => by
  have h1 := h x hx
  have h2 := h' x hx
  exact ⟨fun j => (h2.1 j).trans (h1.1 j), fun j => (h2.2.1 j).trans (h1.2.1 j), fun j => (h2.2.2 j).trans (h1.2.2 j)⟩
theorem Un.mono {L M : List Nat} {S S' : St} (h : Un L S S') (hs : ∀ x, x ∈ L → x ∈ M) : Un M S S' := fun x hx => h x (fun z => hx (hs x z))
theorem Un.wI (S : St) (a k : Nat) (v : Int32) {L : List Nat} (h : a ∈ L) : Un L S (wI S a k v) := fun x hx => ⟨fun j => by
  show (if x = a ∧ j = k then v else S.1 x j) = S.1 x j
  exact if_neg (fun (z : x = a ∧ j = k) => hx (by rw [z.1]; exact h)), fun _ => rfl, fun _ => rfl⟩
theorem Un.wJ (S : St) (a k : Nat) (v : Int64) {L : List Nat} (h : a ∈ L) : Un L S (wJ S a k v) := fun x hx => ⟨fun _ => rfl, fun j => by
  show (if x = a ∧ j = k then v else S.2.1 x j) = S.2.1 x j
  exact if_neg (fun (z : x = a ∧ j = k) => hx (by rw [z.1]; exact h)), fun _ => rfl⟩
theorem Un.wR (S : St) (a k v : Nat) {L : List Nat} (h : a ∈ L) : Un L S (wR S a k v) := fun x hx => ⟨fun _ => rfl, fun _ => rfl, fun j => by
  show (if x = a ∧ j = k then v else S.2.2 x j) = S.2.2 x j
  exact if_neg (fun (z : x = a ∧ j = k) => hx (by rw [z.1]; exact h))⟩
theorem Un.cI (S : St) (a0 sp a dp n : Nat) {L : List Nat} (h : a ∈ L) : Un L S (cI S a0 sp a dp n) := fun x hx => ⟨fun j => by
  show (if x = a then va_cpy (S.1 a0) (S.1 a) sp dp n j else S.1 x j) = S.1 x j
  exact if_neg (fun (z : x = a) => hx (by rw [z]; exact h)), fun _ => rfl, fun _ => rfl⟩
theorem Un.cJ (S : St) (a0 sp a dp n : Nat) {L : List Nat} (h : a ∈ L) : Un L S (cJ S a0 sp a dp n) := fun x hx => ⟨fun _ => rfl, fun j => by
  show (if x = a then va_cpy (S.2.1 a0) (S.2.1 a) sp dp n j else S.2.1 x j) = S.2.1 x j
  exact if_neg (fun (z : x = a) => hx (by rw [z]; exact h)), fun _ => rfl⟩
theorem Un.cF (S : St) (f : Nat → Int32) (sp a dp n : Nat) {L : List Nat} (h : a ∈ L) : Un L S (cF S f sp a dp n) := fun x hx => ⟨fun j => by
  show (if x = a then va_cpy f (S.1 a) sp dp n j else S.1 x j) = S.1 x j
  exact if_neg (fun (z : x = a) => hx (by rw [z]; exact h)), fun _ => rfl, fun _ => rfl⟩
theorem HX.un {S S' : St} {c : Nat} {A : Ch} {L : List Nat} (h : HX S c A) (hu : Un L S S') (hc : ∀ k, k < 9 → c + k ∉ L) : HX S' c A := by
  obtain ⟨⟨h1, h2, h3, h4, h5, h6⟩, h7, h8, h9, h10, h11⟩ := h
  have e : ∀ k, k < 9 → (∀ j, rI S' (c + k) j = rI S (c + k) j) ∧ (∀ j, rJ S' (c + k) j = rJ S (c + k) j) := fun k hk => ⟨(hu _ (hc k hk)).1, (hu _ (hc k hk)).2.1⟩
  have e0 : ∀ j, rI S' c j = rI S c j := (e 0 (by omega)).1
  refine ⟨⟨?_, ?_, ?_, ?_, ?_, ?_⟩, ?_, ?_, ?_, ?_, ?_⟩
  · rw [(e 1 (by omega)).1]; exact h1
  · rw [(e 1 (by omega)).1]; exact h2
  · rw [(e 1 (by omega)).1]; exact h3
  · rw [e0]; exact h4
  · rw [(e 5 (by omega)).1]; exact h5
  · rw [(e 7 (by omega)).1]; exact h6
  · intro r w hr hw; rw [(e 2 (by omega)).1]; exact h7 r w hr hw
  · intro f t hf ht; rw [(e 3 (by omega)).1]; exact h8 f t hf ht
  · intro d f hd hf; rw [(e 4 (by omega)).1]; exact h9 d f hd hf
  · intro k hk; rw [(e 6 (by omega)).1]; exact h10 k hk
  · intro k hk; rw [(e 8 (by omega)).2]; exact h11 k hk
theorem HM.un {S S' : St} {a o la lo : Nat} {A : Ch} {L : List Nat} (h : HM S a o la lo A) (hu : Un L S S') (h1 : a ∉ L) (h2 : la ∉ L) : HM S' a o la lo A := by
  obtain ⟨⟨g1, g2, g3, g4, g5, g6⟩, g7, g8, g9, g10, g11, g12⟩ := h
  have e := (hu a h1).1
  have f := (hu la h2).2.1
  refine ⟨⟨?_, ?_, ?_, ?_, ?_, ?_⟩, ?_, ?_, ?_, ?_, ?_, ?_⟩
  · rw [e]; exact g1
  · rw [e]; exact g2
  · rw [e]; exact g3
  · rw [e]; exact g4
  · rw [e]; exact g5
  · rw [e]; exact g6
  · intro r w hr hw; rw [e]; exact g7 r w hr hw
  · intro r w h1 h2 h3 h4; rw [e]; exact g8 r w h1 h2 h3 h4
  · intro r w hr hw; rw [e]; exact g9 r w hr hw
  · intro d r w hd hr hw; rw [e]; exact g10 d r w hd hr hw
  · intro k hk; rw [e]; exact g11 k hk
  · intro k hk; rw [f]; exact g12 k hk
/-- an image: kept or not, alike -/
def Img (S : St) (n : Nat) : Prop := (rR S 10 n = 0 ∧ rI S 76 n = 0) ∨ (rR S 10 n = 42 + 9 * n ∧ rI S 76 n = 1 ∧ ∃ B : Ch, Wf B ∧ HX S (42 + 9 * n) B ∧ HM S 74 (648 * n) 75 (8 * n) B)
/-- the tapes -/
def Tp (S : St) : Prop := ∃ (t : Nat) (b : Nat → Nat), t ≤ 120 ∧ rI S 11 0 = nI t ∧ rI S 60 5 = nI t ∧ ∀ k, k < t → 32 ≤ b k ∧ b k ≤ 126 ∧ rI S 14 k = nI (b k) ∧ rI S 65 k = nI (b k)
/-- a sheet -/
def Sh (S : St) (h : Nat) : Prop := (rI S (16 + 2 * h) 0 = rI S 77 h ∧ (rI S 77 h = -1 ∨ rI S 77 h = 0 ∨ rI S 77 h = 1 ∨ rI S 77 h = 2)) ∧ (∃ z : Nat, z ≤ 40 ∧ rI S (16 + 2 * h) 1 = nI z ∧ rI S 78 h = nI z) ∧ ∀ k, k < 40 → rI S (17 + 2 * h) k = rI S 79 (40 * h + k)
/-- the rows that change places -/
def Rf (S : St) : Prop := ((rR S 24 0 = 25 ∧ rR S 24 1 = 26) ∨ (rR S 24 0 = 26 ∧ rR S 24 1 = 25)) ∧ ((rR S 32 0 = 33 ∧ rR S 32 1 = 34) ∨ (rR S 32 0 = 34 ∧ rR S 32 1 = 33))
def Inv (S : St) : Prop := (∃ A : Ch, Wf A ∧ HX S 1 A ∧ HM S 61 0 62 0 A) ∧ (Img S 0 ∧ Img S 1) ∧ Tp S ∧ (∀ h, h < 4 → Sh S h) ∧ Rf S
theorem Img.un {S S' : St} {n : Nat} {L : List Nat} (h : Img S n) (hu : Un L S S') (h10 : 10 ∉ L) (h76 : 76 ∉ L) (h74 : 74 ∉ L) (h75 : 75 ∉ L) (hc : ∀ k, k < 9 → 42 + 9 * n + k ∉ L) : Img S' n := by
  have e1 := (hu 10 h10).2.2 n
  have e2 := (hu 76 h76).1 n
  rcases h with ⟨a, b⟩ | ⟨a, b, B, hw, hx, hm⟩
  · exact Or.inl ⟨e1.trans a, e2.trans b⟩
  · exact Or.inr ⟨e1.trans a, e2.trans b, B, hw, hx.un hu hc, hm.un hu h74 h75⟩
theorem Tp.un {S S' : St} {L : List Nat} (h : Tp S) (hu : Un L S S') (h11 : rI S' 11 0 = rI S 11 0) (h60 : rI S' 60 5 = rI S 60 5) (h14 : 14 ∉ L) (h65 : 65 ∉ L) : Tp S' := by
  obtain ⟨t, b, h1, h2, h3, h4⟩ := h
  refine ⟨t, b, h1, h11.trans h2, h60.trans h3, fun k hk => ?_⟩
  obtain ⟨g1, g2, g3, g4⟩ := h4 k hk
  exact ⟨g1, g2, ((hu 14 h14).1 k).trans g3, ((hu 65 h65).1 k).trans g4⟩
theorem Sh.un {S S' : St} {h : Nat} {L : List Nat} (hh : Sh S h) (hu : Un L S S') (h1 : 16 + 2 * h ∉ L) (h2 : 17 + 2 * h ∉ L) (h3 : 77 ∉ L) (h4 : 78 ∉ L) (h5 : 79 ∉ L) : Sh S' h := by
  obtain ⟨⟨a, b⟩, ⟨z, z1, z2, z3⟩, d⟩ := hh
  refine ⟨⟨?_, ?_⟩, ⟨z, z1, ((hu _ h1).1 _).trans z2, ((hu _ h4).1 _).trans z3⟩, fun k hk => ?_⟩
  · rw [(hu _ h1).1, (hu _ h3).1]; exact a
  · rw [(hu _ h3).1]; exact b
  · rw [(hu _ h2).1, (hu _ h5).1]; exact d k hk
theorem inv0 : Inv S0 := by
  refine ⟨⟨(0, fun _ _ => 0, fun _ _ => 0, fun _ _ _ => false, 500, 21, 7, 0, fun _ => 0, 0, fun _ => 0), ?_, ?_, ?_⟩, ⟨Or.inl ⟨rfl, rfl⟩, Or.inl ⟨rfl, rfl⟩⟩, ⟨0, fun _ => 0, by omega, rfl, rfl, fun k hk => by omega⟩, ?_, Or.inl ⟨rfl, rfl⟩, Or.inl ⟨rfl, rfl⟩⟩
  · refine ⟨by decide, fun r w hr => absurd hr (Nat.not_lt_zero r), fun _ _ _ _ => Nat.zero_le _, fun _ _ => rfl, by decide, by decide, by decide, by decide, fun k hk => absurd hk (Nat.not_lt_zero k), by decide, fun k hk => absurd hk (Nat.not_lt_zero k)⟩
  · refine ⟨⟨rfl, rfl, rfl, rfl, rfl, rfl⟩, fun r w hr => absurd hr (Nat.not_lt_zero r), fun f t _ _ => rfl, fun d f _ _ => rfl, fun k hk => absurd hk (Nat.not_lt_zero k), fun k hk => absurd hk (Nat.not_lt_zero k)⟩
  · have e : ∀ j, j ≠ 128 → j ≠ 129 → j ≠ 131 → rI S0 61 j = 0 := by
      intro j h1 h2 h3
      show upd (upd (upd (fun _ => 0) 128 500) 129 21) 131 7 j = 0
      rw [pk_un h3, pk_un h2, pk_un h1]
    refine ⟨⟨rfl, rfl, rfl, rfl, rfl, rfl⟩, fun r w hr => absurd hr (Nat.not_lt_zero r), fun r w _ hr h3 h6 => e _ (by omega) (by omega) (by omega), fun f t hf ht => e _ (by omega) (by omega) (by omega), fun d f t hd hf ht => e _ (by omega) (by omega) (by omega), fun k hk => absurd hk (Nat.not_lt_zero k), fun k hk => absurd hk (Nat.not_lt_zero k)⟩
  · intro h hh
    have hh : h = 0 ∨ h = 1 ∨ h = 2 ∨ h = 3 := by omega
    rcases hh with rfl | rfl | rfl | rfl
    · exact ⟨⟨rfl, Or.inl rfl⟩, ⟨0, by omega, rfl, rfl⟩, fun k _ => rfl⟩
    · exact ⟨⟨rfl, Or.inl rfl⟩, ⟨0, by omega, rfl, rfl⟩, fun k _ => rfl⟩
    · exact ⟨⟨rfl, Or.inl rfl⟩, ⟨0, by omega, rfl, rfl⟩, fun k _ => rfl⟩
    · exact ⟨⟨rfl, Or.inl rfl⟩, ⟨0, by omega, rfl, rfl⟩, fun k _ => rfl⟩
