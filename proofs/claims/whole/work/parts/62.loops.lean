/-! loops that count up: their folds -/
def fo {σ : Type} (f : Nat → σ → σ) (k : Nat) : Nat → σ → σ
  | 0, s => s
  | c + 1, s => fo f (k + 1) c (f k s)
theorem foldG {σ ρ : Type} (F : Nat → Nat → σ → Option ρ) (out : σ → ρ) (N : Nat) (f : Nat → σ → σ) (he : ∀ n s, F (n + 1) N s = some (out s)) (hs : ∀ n k s, k < N → F (n + 1) k s = F n (k + 1) (f k s)) : ∀ c n k s, k + c = N → c < n → F n k s = some (out (fo f k c s)) := by
  intro c
  induction c with
  | zero =>
    intro n k s hk hn
    obtain ⟨m, rfl⟩ : ∃ m, n = m + 1 := ⟨n - 1, by omega⟩
    have hk : k = N := hk
    rw [hk]
    exact he m s
  | succ c ih =>
    intro n k s hk hn
    obtain ⟨m, rfl⟩ : ∃ m, n = m + 1 := ⟨n - 1, by omega⟩
    rw [hs m k s (by omega)]
    exact ih m (k + 1) (f k s) (by omega) (by omega)
theorem fo_inv {σ : Type} {f : Nat → σ → σ} (P : Nat → σ → Prop) : ∀ c k s, P k s → (∀ j s, k ≤ j → j < k + c → P j s → P (j + 1) (f j s)) → P (k + c) (fo f k c s)
  | 0, _, _, h, _ => h
  | c + 1, k, s, h, hs => by
    have := fo_inv P c (k + 1) (f k s) (hs k s (Nat.le_refl k) (by omega) h) (fun j s h1 h2 h3 => hs j s (by omega) (by omega) h3)
    rw [show k + (c + 1) = k + 1 + c by omega]
    exact this
theorem fo_cong {σ : Type} {f g : Nat → σ → σ} : ∀ c k k' s, (∀ j s, j < c → f (k + j) s = g (k' + j) s) → fo f k c s = fo g k' c s
  | 0, _, _, _, _ => rfl
  | c + 1, k, k', s, h => by
    show fo f (k + 1) c (f k s) = fo g (k' + 1) c (g k' s)
    rw [show f k s = g k' s from h 0 s (by omega)]
    refine fo_cong c (k + 1) (k' + 1) _ (fun j s hj => ?_)
    have := h (j + 1) s (by omega)
    rw [show k + 1 + j = k + (j + 1) by omega, show k' + 1 + j = k' + (j + 1) by omega]
    exact this
theorem fo_succ {σ : Type} {f : Nat → σ → σ} : ∀ c k s, fo f k (c + 1) s = f (k + c) (fo f k c s)
  | 0, _, _ => rfl
  | c + 1, k, s => by
    show fo f (k + 1) (c + 1) (f k s) = f (k + (c + 1)) (fo f (k + 1) c (f k s))
    rw [fo_succ c (k + 1) (f k s), show k + 1 + c = k + (c + 1) by omega]
/-- a loop from k to N that may end early -/
theorem forG {σ ρ : Type} (F : Nat → Nat → σ → Option ρ) (N : Nat) (P : Nat → σ → Prop) (Q : ρ → Prop) (he : ∀ n s, P N s → ∃ r, F (n + 1) N s = some r ∧ Q r) (hs : ∀ n k s, k < N → P k s → (∃ r, F (n + 1) k s = some r ∧ Q r) ∨ (∃ s', F (n + 1) k s = F n (k + 1) s' ∧ P (k + 1) s')) : ∀ c n k s, k + c = N → c < n → P k s → ∃ r, F n k s = some r ∧ Q r := by
  intro c
  induction c with
  | zero =>
    intro n k s hk hn hp
    obtain ⟨m, rfl⟩ : ∃ m, n = m + 1 := ⟨n - 1, by omega⟩
    have hk : k = N := hk
    rw [hk] at hp ⊢
    exact he m s hp
  | succ c ih =>
    intro n k s hk hn hp
    obtain ⟨m, rfl⟩ : ∃ m, n = m + 1 := ⟨n - 1, by omega⟩
    rcases hs m k s (by omega) hp with h | ⟨s', e, hp'⟩
    · exact h
    · rw [e]
      exact ih m (k + 1) s' (by omega) (by omega) hp'
section LP
variable {S : St} {A : Ch}
theorem nN (hx : HX S 1 A) : rI S 2 0 = nI A.n := hx.1.1
theorem xle (hx : HX S 1 A) (hw : Wf A) : rI S 2 0 ≤ nI A.n := by rw [nN hx]; have := hw.1; exact nI_le (Nat.le_refl _) (by omega)
theorem xnle (hx : HX S 1 A) (hw : Wf A) {k : Nat} (hk : k < A.n) : ¬ rI S 2 0 ≤ nI k := by rw [nN hx]; have := hw.1; exact nI_ge hk (by omega)
theorem mle (hw : Wf A) : nI A.n ≤ nI A.n := nI_le (Nat.le_refl _) (by have := hw.1; omega)
theorem mnle (hw : Wf A) {k : Nat} (hk : k < A.n) : ¬ nI A.n ≤ nI k := nI_ge hk (by have := hw.1; omega)
/-- who sings, who is not cut -/
abbrev sg (A : Ch) (r : Nat) : Bool := decide (A.val r 0 < 4)
abbrev uc (A : Ch) (r : Nat) : Bool := decide (¬ A.val r 0 = 5)
theorem mask_step (p : Nat → Bool) {k : Nat} (hk : k < 8) : nI (mask p k) ||| (if p k then 1 <<< (nI k &&& 31) else 0) = nI (mask p (k + 1)) := by
  have hl : mask p k < 256 := Nat.lt_of_lt_of_le (mask_lt p k) (by have := Nat.pow_le_pow_right (n := 2) (by decide) (Nat.le_of_lt hk); exact this)
  show _ = nI (mask p k + if p k then 2 ^ k else 0)
  by_cases h : p k = true
  · rw [if_pos h, if_pos h, (bits8 hl hk).1]
    unfold setN
    rw [if_neg]
    rw [mask_tb]
    simp
  · rw [if_neg h, if_neg h]
    simp
theorem mask8 (p : Nat → Bool) {n : Nat} (hn : n ≤ 8) : mask p n < 256 := Nat.lt_of_lt_of_le (mask_lt p n) (Nat.pow_le_pow_right (n := 2) (by decide) hn)
theorem bit8 {l t : Nat} (hl : l < 256) (ht : t < 8) : (((nI l >>> (nI t &&& 31)) &&& 1) = 0 ↔ l.testBit t = false) ∧ (((nI l >>> (nI t &&& 31)) &&& 1) = 1 ↔ l.testBit t = true) := by
  rw [(bits8 hl ht).2.2.1]
  cases l.testBit t
  · exact ⟨⟨fun _ => rfl, fun _ => rfl⟩, ⟨fun h => absurd h (by decide), fun h => absurd h (by decide)⟩⟩
  · exact ⟨⟨fun h => absurd h (by decide), fun h => absurd h (by decide)⟩, ⟨fun _ => rfl, fun _ => rfl⟩⟩
theorem singers_ok (hx : HX S 1 A) (hw : Wf A) : X6_singers S = some (nI (mask (sg A) A.n)) := by
  have hn := hw.1
  obtain ⟨r, h, e⟩ := forG (fun n k (s : Int32) => X6_singers_L4 S n s (nI k)) A.n (fun k s => s = nI (mask (sg A) k)) (fun r => r = nI (mask (sg A) A.n)) (fun n s hp => ⟨s, if_pos (xle hx hw), hp⟩) (fun n k s hk hp => by
    right
    refine ⟨nI (mask (sg A) (k + 1)), ?_, rfl⟩
    show X6_singers_L4 S (n + 1) s (nI k) = X6_singers_L4 S n (nI (mask (sg A) (k + 1))) (nI (k + 1))
    refine (if_neg (xnle hx hw hk)).trans ?_
    have e2 := mask_step (sg A) (k := k) (by omega)
    by_cases h : A.val k 0 < 4
    · rw [if_pos (decide_eq_true h)] at e2
      refine (bd ((sings_ok hx hw hk).trans (congrArg some (if_pos h)))).trans ?_
      rw [← e2, ← hp, ← nI_1]
      rfl
    · rw [if_neg (by simp [h])] at e2
      refine (bd ((sings_ok hx hw hk).trans (congrArg some (if_neg h)))).trans ?_
      rw [← e2, ← hp, ← nI_1]
      rfl) A.n FU 0 0 (by omega) (FU_lt (by omega)) rfl
  unfold X6_singers
  rw [← e]
  exact bd h
theorem msingers_ok (hm : HM S 61 0 62 0 A) (hw : Wf A) : X11_singers S = some (nI (mask (sg A) A.n)) := by
  have hn := hw.1
  obtain ⟨r, h, e⟩ := forG (fun n k (s : Int32) => X11_singers_L4 S n s (nI k)) A.n (fun k s => s = nI (mask (sg A) k)) (fun r => r = nI (mask (sg A) A.n)) (fun n s hp => ⟨s, (bd (rooms_ok hm)).trans (if_pos (mle hw)), hp⟩) (fun n k s hk hp => by
    right
    refine ⟨nI (mask (sg A) (k + 1)), ?_, rfl⟩
    show X11_singers_L4 S (n + 1) s (nI k) = X11_singers_L4 S n (nI (mask (sg A) (k + 1))) (nI (k + 1))
    refine (bd (rooms_ok hm)).trans ?_
    refine (if_neg (mnle hw hk)).trans ?_
    have e2 := mask_step (sg A) (k := k) (by omega)
    by_cases h : A.val k 0 < 4
    · rw [if_pos (decide_eq_true h)] at e2
      refine (bd ((msings_ok hm hw hk).trans (congrArg some (if_pos h)))).trans ?_
      rw [← e2, ← hp, ← nI_1]
      rfl
    · rw [if_neg (by simp [h])] at e2
      refine (bd ((msings_ok hm hw hk).trans (congrArg some (if_neg h)))).trans ?_
      rw [← e2, ← hp, ← nI_1]
      rfl) A.n FU 0 0 (by omega) (FU_lt (by omega)) rfl
  unfold X11_singers
  rw [← e]
  exact bd h
theorem uncut_ok (hx : HX S 1 A) (hw : Wf A) : X6_uncut S = some (nI (mask (uc A) A.n)) := by
  have hn := hw.1
  obtain ⟨r, h, e⟩ := forG (fun n k (s : Int32) => X6_uncut_L4 S n s (nI k)) A.n (fun k s => s = nI (mask (uc A) k)) (fun r => r = nI (mask (uc A) A.n)) (fun n s hp => ⟨s, if_pos (xle hx hw), hp⟩) (fun n k s hk hp => by
    right
    refine ⟨nI (mask (uc A) (k + 1)), ?_, rfl⟩
    show X6_uncut_L4 S (n + 1) s (nI k) = X6_uncut_L4 S n (nI (mask (uc A) (k + 1))) (nI (k + 1))
    refine (if_neg (xnle hx hw hk)).trans ?_
    have e2 := mask_step (uc A) (k := k) (by omega)
    by_cases h : A.val k 0 = 5
    · rw [if_neg (by simp [h])] at e2
      refine (bd ((isCut_ok hx hw hk).trans (congrArg some (if_pos h)))).trans ?_
      rw [← e2, ← hp, ← nI_1]
      rfl
    · rw [if_pos (by simp [h])] at e2
      refine (bd ((isCut_ok hx hw hk).trans (congrArg some (if_neg h)))).trans ?_
      rw [← e2, ← hp, ← nI_1]
      rfl) A.n FU 0 0 (by omega) (FU_lt (by omega)) rfl
  unfold X6_uncut
  rw [← e]
  exact bd h
end LP
/-- how many bits -/
def pop (l : Nat) : Nat := ((List.range 8).filter (fun t => l.testBit t)).length
theorem bc_ok (S : St) {l : Nat} (hl : l < 256) : J6_bitCount_0f7a4 S (nI l) = some (nI (pop l)) := by
  have key : (List.range 256).all (fun l => decide (J6_bitCount_0f7a4 S0 (nI l) = some (nI (pop l)))) = true := by decide +kernel
  exact of_decide_eq_true (List.all_eq_true.mp key l (List.mem_range.mpr hl))
theorem size_S (S T : St) (v : Int32) : ∀ n a b, X11_size_L4 S v n a b = X11_size_L4 T v n a b
  | 0, _, _ => rfl
  | n + 1, a, b => by
    show (if 8 ≤ b then some a else X11_size_L4 S v n _ _) = (if 8 ≤ b then some a else X11_size_L4 T v n _ _)
    rw [size_S S T v n]
theorem size_ok (S : St) {l : Nat} (hl : l < 256) : X11_size S (nI l) = some (nI (pop l)) := by
  have key : (List.range 256).all (fun l => decide (X11_size S0 (nI l) = some (nI (pop l)))) = true := by decide +kernel
  have h := of_decide_eq_true (List.all_eq_true.mp key l (List.mem_range.mpr hl))
  rw [← h]
  unfold X11_size
  rw [size_S S S0]
section CT
variable {S : St} {A : Ch}
theorem wiresInAll_ok (S : St) : X6_wiresInAll S = some (fo (fun k v => v + if rI S 4 k ≤ 0 then 0 else 1) 0 64 0) := by
  have h := foldG (fun n k (s : Int32) => X6_wiresInAll_L13 S 64 n s (nI k)) id 64 (fun k v => v + if rI S 4 k ≤ 0 then 0 else 1) (fun n s => rfl) (fun n k s hk => by
    show X6_wiresInAll_L13 S 64 (n + 1) s (nI k) = X6_wiresInAll_L13 S 64 n (s + if rI S 4 k ≤ 0 then 0 else 1) (nI (k + 1))
    refine (if_neg (nI_ge (a := k) (b := 64) hk (by decide))).trans ?_
    refine (bd (ldA_s S 4 k rfl rfl hk)).trans ?_
    rw [some_if, ← nI_1]
    rfl) 64 FU 0 0 (by omega) (FU_lt (by omega))
  unfold X6_wiresInAll
  refine (bd (rfl : alO S 4 = some 64)).trans ?_
  exact bd h
theorem cnt1_ok (S : St) (v1 : Int32) : X11_count_L5 S v1 FU 0 64 = some (fo (fun k v => v + if rI S 61 k ≤ 0 then 0 else 1) 64 64 0) :=
  foldG (fun n k (s : Int32) => X11_count_L5 S v1 n s (nI k)) id 128 (fun k v => v + if rI S 61 k ≤ 0 then 0 else 1) (fun n s => rfl) (fun n k s hk => by
    show X11_count_L5 S v1 (n + 1) s (nI k) = X11_count_L5 S v1 n (s + if rI S 61 k ≤ 0 then 0 else 1) (nI (k + 1))
    refine (if_neg (nI_ge (a := k) (b := 128) hk (by decide))).trans ?_
    refine (bd (ldA_s S 61 k rfl rfl (by show _ < 648; omega))).trans ?_
    rw [some_if, ← nI_1]
    rfl) 64 FU 64 0 (by omega) (FU_lt (by omega))
theorem breaths_ok (hx : HX S 1 A) (hw : Wf A) : X5_breaths S = some (fo (fun k v => v + if rI S 7 k < 10 then 0 else 1) 0 A.len 0) := by
  have hl := hw.2.2.2.2.2.2.2.1
  have e6 : rI S 6 0 = nI A.len := hx.1.2.2.2.2.1
  have h := foldG (fun n k (s : Int32) => X5_breaths_L4 S n s (nI k)) id A.len (fun k v => v + if rI S 7 k < 10 then 0 else 1) (fun n s => if_pos (by rw [e6]; exact nI_le (Nat.le_refl _) (by omega))) (fun n k s hk => by
    show X5_breaths_L4 S (n + 1) s (nI k) = X5_breaths_L4 S n (s + if rI S 7 k < 10 then 0 else 1) (nI (k + 1))
    refine (if_neg (by rw [e6]; exact nI_ge hk (by omega))).trans ?_
    refine (bd (ldA_s S 7 k rfl rfl (by show _ < 64; omega))).trans ?_
    rw [some_if, ← nI_1]
    rfl) A.len FU 0 0 (by omega) (FU_lt (by omega))
  unfold X5_breaths
  exact bd h
theorem cnt2_ok (hm : HM S 61 0 62 0 A) (hw : Wf A) (v1 v2 : Int32) : X11_count_L40 S v1 v2 FU 0 0 = some (fo (fun k v => v + if rI S 61 (136 + k) < 10 then 0 else 1) 0 A.len 0) := by
  have hl := hw.2.2.2.2.2.2.2.1
  have e6 : ldA S 61 130 = some (nI A.len) := (ldA_s S 61 130 rfl rfl (by decide)).trans (congrArg some hm.1.2.2.2.2.1)
  exact foldG (fun n k (s : Int32) => X11_count_L40 S v1 v2 n s (nI k)) id A.len (fun k v => v + if rI S 61 (136 + k) < 10 then 0 else 1) (fun n s => (bd e6).trans (if_pos (nI_le (Nat.le_refl _) (by omega)))) (fun n k s hk => by
    show X11_count_L40 S v1 v2 (n + 1) s (nI k) = X11_count_L40 S v1 v2 n (s + if rI S 61 (136 + k) < 10 then 0 else 1) (nI (k + 1))
    refine (bd e6).trans ?_
    refine (if_neg (nI_ge hk (by omega))).trans ?_
    refine (bd (ldA_s S 61 (136 + k) rfl (nI_add 136 k) (by show _ < 648; omega))).trans ?_
    rw [some_if, ← nI_1]
    rfl) A.len FU 0 0 (by omega) (FU_lt (by omega))
theorem st_count : ∀ (S : St) (a0 : Int32), Inv S → ∃ (r : Int32), X10_count S a0 = some r ∧ X11_count S a0 = some r ∧ Inv S := by
  intro S a hI
  obtain ⟨⟨A, hw, hx, hm⟩, -⟩ := id hI
  have hn := hw.1
  have hl := hw.2.2.2.2.2.2.2.1
  have c1 := cnt1_ok S a
  have c2 := fun v2 => cnt2_ok hm hw a v2
  have w1 : fo (fun k v => v + if rI S 61 k ≤ 0 then 0 else 1) 64 64 (0 : Int32) = fo (fun k v => v + if rI S 4 k ≤ 0 then 0 else 1) 0 64 0 := fo_cong 64 64 0 0 (fun j s hj => by
    have h1 := hx.2.2.1 (j / 8) (j % 8) (by omega) (by omega)
    have h2 := hm.2.2.2.1 (j / 8) (j % 8) (by omega) (by omega)
    rw [show 8 * (j / 8) + j % 8 = j by omega] at h1
    rw [show 0 + 64 + 8 * (j / 8) + j % 8 = 64 + j by omega] at h2
    rw [h2, Nat.zero_add, show rI S 4 j = _ from h1])
  have w2 : fo (fun k v => v + if rI S 61 (136 + k) < 10 then 0 else 1) 0 A.len (0 : Int32) = fo (fun k v => v + if rI S 7 k < 10 then 0 else 1) 0 A.len 0 := fo_cong A.len 0 0 0 (fun j s hj => by
    have h1 := hx.2.2.2.2.1 j hj
    have h2 := hm.2.2.2.2.2.1 j hj
    rw [show 0 + 136 + j = 136 + (0 + j) by omega] at h2
    rw [h2, Nat.zero_add, show rI S 7 j = _ from h1])
  rw [w1] at c1
  rw [w2] at c2
  have eM : X11_count S a = if a = 0 then some (nI A.n) else if a = 1 then some (nI (pop (mask (sg A) A.n))) else if a = 2 then some (fo (fun k v => v + if rI S 4 k ≤ 0 then 0 else 1) 0 64 0) else if a = 3 then some (nI A.len) else if a = 4 then some (fo (fun k v => v + if rI S 7 k < 10 then 0 else 1) 0 A.len 0) else if a = 5 then some (nI A.ln) else some (-1) := by
    unfold X11_count
    refine (bd c1).trans ?_
    refine (bd (c2 _)).trans ?_
    rw [rooms_ok hm, msingers_ok hm hw]
    have e1 : ldA S 61 130 = some (nI A.len) := (ldA_s S 61 130 rfl rfl (by decide)).trans (congrArg some hm.1.2.2.2.2.1)
    have e2 : ldA S 61 132 = some (nI A.ln) := (ldA_s S 61 132 rfl rfl (by decide)).trans (congrArg some hm.1.2.2.2.2.2)
    rw [e1, e2]
    have e3 : ((some (nI (mask (sg A) A.n))).bind fun x26 => (X11_size S x26).bind fun x28 => some x28) = some (nI (pop (mask (sg A) A.n))) := bd (size_ok S (mask8 _ hn))
    rw [e3]
    rfl
  have eX : X10_count S a = if a = 0 then some (nI A.n) else if a = 1 then some (nI (pop (mask (sg A) A.n))) else if a = 2 then some (fo (fun k v => v + if rI S 4 k ≤ 0 then 0 else 1) 0 64 0) else if a = 3 then some (nI A.len) else if a = 4 then some (fo (fun k v => v + if rI S 7 k < 10 then 0 else 1) 0 A.len 0) else if a = 5 then some (nI A.ln) else some (-1) := by
    unfold X10_count
    rw [singers_ok hx hw, wiresInAll_ok, breaths_ok hx hw, nN hx, show rI S 6 0 = nI A.len from hx.1.2.2.2.2.1, show rI S 8 0 = nI A.ln from hx.1.2.2.2.2.2]
    have e3 : ((some (nI (mask (sg A) A.n))).bind fun x26 => (J6_bitCount_0f7a4 S x26).bind fun x28 => some x28) = some (nI (pop (mask (sg A) A.n))) := bd (bc_ok S (mask8 _ hn))
    rw [e3]
    rfl
  rw [eX, eM]
  obtain ⟨r, hr⟩ : ∃ r, (if a = 0 then some (nI A.n) else if a = 1 then some (nI (pop (mask (sg A) A.n))) else if a = 2 then some (fo (fun k v => v + if rI S 4 k ≤ 0 then 0 else 1) 0 64 0) else if a = 3 then some (nI A.len) else if a = 4 then some (fo (fun k v => v + if rI S 7 k < 10 then 0 else 1) 0 A.len 0) else if a = 5 then some (nI A.ln) else some (-1) : Option Int32) = some r := by
    simp only [some_if]
    exact ⟨_, rfl⟩
  exact ⟨r, hr, hr, hI⟩
end CT
