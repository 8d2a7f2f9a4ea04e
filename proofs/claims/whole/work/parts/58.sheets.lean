/-- a loop with fuel: each turn ends it, or goes on with a smaller measure -/
theorem loopG {σ ρ : Type} (F : Nat → σ → Option ρ) (μ : σ → Nat) (P : σ → Prop) (Q : ρ → Prop) (hs : ∀ n s, P s → (∃ r, F (n + 1) s = some r ∧ Q r) ∨ (∃ s', F (n + 1) s = F n s' ∧ P s' ∧ μ s' < μ s)) : ∀ n s, μ s < n → P s → ∃ r, F n s = some r ∧ Q r := by
  intro n
  induction n with
  | zero => intro s h; omega
  | succ n ih =>
    intro s h hp
    rcases hs n s hp with h1 | ⟨s', e, hp', hm⟩
    · exact h1
    · obtain ⟨r, hr, hq⟩ := ih s' (by omega) hp'
      exact ⟨r, e.trans hr, hq⟩
theorem FU_lt {n : Nat} (h : n < 2000) : n < FU := h
theorem ckO_e {S : St} {id ci : Nat} (h1 : kk_ id = 0) (h2 : kl id = ci) (h3 : id ∈ ids S) : ckO S id ci = some () := if_pos ⟨h1, h2, h3⟩
theorem sh_st {h : Nat} (hh : h < 4) (S : St) : (kk_ (16 + 2 * h) = 0 ∧ kl (16 + 2 * h) = 7 ∧ 16 + 2 * h ∈ ids S) ∧ kk_ (17 + 2 * h) = 1 ∧ kl (17 + 2 * h) = 40 ∧ 17 + 2 * h ∈ ids S := by
  have : h = 0 ∨ h = 1 ∨ h = 2 ∨ h = 3 := by omega
  rcases this with rfl | rfl | rfl | rfl <;> exact ⟨⟨rfl, rfl, in_sid S rfl⟩, rfl, rfl, in_sid S rfl⟩
theorem ckS {h : Nat} (hh : h < 4) (S : St) : ckO S (16 + 2 * h) 7 = some () := ckO_e (sh_st hh S).1.1 (sh_st hh S).1.2.1 (sh_st hh S).1.2.2
theorem shG {α : Type} {S : St} (a : Int32) {X Y : Option α} : ((X10_isSheet S a).bind fun x => if x = 0 then X else Y) = if 0 ≤ a.toInt ∧ a.toInt ≤ 3 then Y else X := by
  unfold X10_isSheet
  by_cases h1 : a < 0
  · have := (i_lt a 0 0).mp h1
    rw [if_pos h1, if_neg (by omega)]
    rfl
  · have h1' : ¬ a.toInt < 0 := fun z => h1 ((i_lt a 0 0).mpr z)
    rw [if_neg h1]
    by_cases h2 : (4 : Int32) ≤ a
    · have := (i_ge a 4 4).mp h2
      rw [if_pos h2, if_neg (by omega)]
      rfl
    · have h2' : ¬ 4 ≤ a.toInt := fun z => h2 ((i_ge a 4 4).mpr z)
      rw [if_neg h2, if_pos (by omega)]
      rfl
theorem laG {α : Type} {S : St} (a : Int32) {X Y : Option α} : ((X10_isLane S a).bind fun x => if x = 0 then X else Y) = if 0 ≤ a.toInt ∧ a.toInt ≤ 2 then Y else X := by
  unfold X10_isLane
  rw [gd2 a 0 2 0 2]
  by_cases h : 0 ≤ a.toInt ∧ a.toInt ≤ 2
  · rw [if_pos h, if_pos h]
    rfl
  · rw [if_neg h, if_neg h]
    rfl
theorem mshG {α : Type} {S : St} (a : Int32) {X Y : Option α} : ((X11_isSheet S a).bind fun x => if x = 0 then X else Y) = if 0 ≤ a.toInt ∧ a.toInt ≤ 3 then Y else X := by
  unfold X11_isSheet
  rw [in32 S a 0 3 0 3]
  exact one0
theorem mlaG {α : Type} {S : St} (a : Int32) {X Y : Option α} : ((X11_isLane S a).bind fun x => if x = 0 then X else Y) = if 0 ≤ a.toInt ∧ a.toInt ≤ 2 then Y else X := by
  unfold X11_isLane
  rw [in32 S a 0 2 0 2]
  exact one0
def okS (L : List Nat) : Bool := L.all (fun x => (decide (16 ≤ x) && decide (x ≤ 23)) || (decide (77 ≤ x) && decide (x ≤ 80)))
theorem okS_not {L : List Nat} (h : okS L = true) {x : Nat} (hx : x < 16 ∨ (23 < x ∧ x < 77)) : x ∉ L := fun hm => by
  have := List.all_eq_true.mp h x hm
  simp only [Bool.and_eq_true, Bool.or_eq_true, decide_eq_true_eq] at this
  omega
/-- what a call that touches sheets alone must show -/
theorem Inv.s {S S2 : St} {L : List Nat} (h : Inv S) (hu : Un L S S2) (hL : okS L = true) (hs : ∀ h, h < 4 → Sh S2 h) : Inv S2 := by
  obtain ⟨⟨A, hw, hx, hm⟩, ⟨i0, i1⟩, ht, -, hr⟩ := h
  refine ⟨⟨A, hw, hx.un hu (fun k hk => okS_not hL (by omega)), hm.un hu (okS_not hL (by omega)) (okS_not hL (by omega))⟩, ⟨i0.un hu (okS_not hL (by omega)) (okS_not hL (by omega)) (okS_not hL (by omega)) (okS_not hL (by omega)) (fun k hk => okS_not hL (by omega)), i1.un hu (okS_not hL (by omega)) (okS_not hL (by omega)) (okS_not hL (by omega)) (okS_not hL (by omega)) (fun k hk => okS_not hL (by omega))⟩, ht.un hu ((hu 11 (okS_not hL (by omega))).1 0) ((hu 60 (okS_not hL (by omega))).1 5) (okS_not hL (by omega)) (okS_not hL (by omega)), hs, ?_⟩
  unfold Rf
  rw [(hu 24 (okS_not hL (by omega))).2.2, (hu 24 (okS_not hL (by omega))).2.2, (hu 32 (okS_not hL (by omega))).2.2, (hu 32 (okS_not hL (by omega))).2.2]
  exact hr
theorem fill_ok (S : St) {h : Nat} (hh : h < 4) (v : Int32) : ∃ T, J7_fill_53178 S (17 + 2 * h) v = some T ∧ Un [17 + 2 * h] S T ∧ ∀ k, k < 40 → rI T (17 + 2 * h) k = v := by
  obtain ⟨-, k1, k2, k3⟩ := sh_st hh S
  unfold J7_fill_53178
  have e1 : alO S (17 + 2 * h) = some 40 := by
    unfold alO
    rw [if_pos ⟨k1, k3⟩, k2]
    rfl
  obtain ⟨T, hT, q1, q2⟩ := loopG (fun n (s : Nat × St) => J7_fill_53178_L5 (17 + 2 * h) v 40 n (nI s.1) s.2) (fun s => 40 - s.1) (fun s => s.1 ≤ 40 ∧ Un [17 + 2 * h] S s.2 ∧ ∀ k, k < s.1 → rI s.2 (17 + 2 * h) k = v) (fun T => Un [17 + 2 * h] S T ∧ ∀ k, k < 40 → rI T (17 + 2 * h) k = v) (fun n s hp => by
    obtain ⟨p1, p2, p3⟩ := hp
    by_cases hk : s.1 = 40
    · left
      refine ⟨s.2, ?_, p2, fun k hk2 => p3 k (by omega)⟩
      show J7_fill_53178_L5 (17 + 2 * h) v 40 (n + 1) (nI s.1) s.2 = some s.2
      rw [hk]
      rfl
    · right
      refine ⟨(s.1 + 1, wI s.2 (17 + 2 * h) s.1 v), ?_, ⟨by show s.1 + 1 ≤ 40; omega, p2.trs (Un.wI _ _ _ _ (by simp)), fun k hk2 => ?_⟩, by show 40 - (s.1 + 1) < 40 - s.1; omega⟩
      · show J7_fill_53178_L5 (17 + 2 * h) v 40 (n + 1) (nI s.1) s.2 = J7_fill_53178_L5 (17 + 2 * h) v 40 n (nI (s.1 + 1)) (wI s.2 (17 + 2 * h) s.1 v)
        refine (if_neg (nI_ge (a := s.1) (b := 40) (by omega) (by decide))).trans ?_
        refine (bd (stA_e (k := s.1) k1 (sh_st hh s.2).2.2.2 rfl (by rw [k2]; omega))).trans ?_
        rw [nI_1]
      · show rI (wI s.2 (17 + 2 * h) s.1 v) (17 + 2 * h) k = v
        have hk2 : k < s.1 + 1 := hk2
        by_cases hke : k = s.1
        · rw [hke, rI_wI_s]
        · rw [rI_wI_k hke]
          exact p3 k (by omega)) FU (0, S) (FU_lt (by show 40 - 0 < 2000; omega)) ⟨by show 0 ≤ 40; omega, Un.rf _ _, fun k hk => absurd hk (Nat.not_lt_zero k)⟩
  refine ⟨T, ?_, q1, q2⟩
  refine (bd e1).trans ?_
  exact bd hT
theorem mfill_ok (S : St) {h : Nat} (hh : h < 4) (v3 : Int32) : ∃ T, X11_sheet_L46 (nI h) v3 FU 0 S = some T ∧ Un [79] S T ∧ (∀ k, k < 40 → rI T 79 (40 * h + k) = 0) ∧ ∀ j, (j < 40 * h ∨ 40 * h + 40 ≤ j) → rI T 79 j = rI S 79 j := by
  obtain ⟨T, hT, q⟩ := loopG (fun n (s : Nat × St) => X11_sheet_L46 (nI h) v3 n (nI s.1) s.2) (fun s => 40 - s.1) (fun s => s.1 ≤ 40 ∧ Un [79] S s.2 ∧ (∀ k, k < s.1 → rI s.2 79 (40 * h + k) = 0) ∧ ∀ j, (j < 40 * h ∨ 40 * h + 40 ≤ j) → rI s.2 79 j = rI S 79 j) (fun T => Un [79] S T ∧ (∀ k, k < 40 → rI T 79 (40 * h + k) = 0) ∧ ∀ j, (j < 40 * h ∨ 40 * h + 40 ≤ j) → rI T 79 j = rI S 79 j) (fun n s hp => by
    obtain ⟨p1, p2, p3, p4⟩ := hp
    by_cases hk : s.1 = 40
    · left
      refine ⟨s.2, ?_, p2, fun k hk2 => p3 k (by omega), p4⟩
      show X11_sheet_L46 (nI h) v3 (n + 1) (nI s.1) s.2 = some s.2
      rw [hk]
      rfl
    · right
      refine ⟨(s.1 + 1, wI s.2 79 (40 * h + s.1) 0), ?_, ⟨by show s.1 + 1 ≤ 40; omega, p2.trs (Un.wI _ _ _ _ (by simp)), fun k hk2 => ?_, fun j hj => ?_⟩, by show 40 - (s.1 + 1) < 40 - s.1; omega⟩
      · show X11_sheet_L46 (nI h) v3 (n + 1) (nI s.1) s.2 = X11_sheet_L46 (nI h) v3 n (nI (s.1 + 1)) (wI s.2 79 (40 * h + s.1) 0)
        refine (if_neg (nI_ge (a := s.1) (b := 40) (by omega) (by decide))).trans ?_
        refine (bd (stA_s s.2 79 (40 * h + s.1) 0 rfl (ix2' 40 h s.1) (by show _ < 160; omega))).trans ?_
        rw [nI_1]
      · show rI (wI s.2 79 (40 * h + s.1) 0) 79 (40 * h + k) = 0
        have hk2 : k < s.1 + 1 := hk2
        by_cases hke : k = s.1
        · rw [hke, rI_wI_s]
        · rw [rI_wI_k (by omega)]
          exact p3 k (by omega)
      · show rI (wI s.2 79 (40 * h + s.1) 0) 79 j = _
        rw [rI_wI_k (by omega)]
        exact p4 j hj) FU (0, S) (FU_lt (by show 40 - 0 < 2000; omega)) ⟨by show 0 ≤ 40; omega, Un.rf _ _, fun k hk => absurd hk (Nat.not_lt_zero k), fun _ _ => rfl⟩
  exact ⟨T, hT, q⟩
