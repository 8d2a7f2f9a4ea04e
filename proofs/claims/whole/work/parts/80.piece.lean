/-! reading a piece -/
section TXT
variable (t : Nat) (b : Nat → Nat)
def skp : Nat → Nat → Nat
  | 0, p => p
  | c + 1, p => if p < t ∧ b p = 32 then skp c (p + 1) else p
def sk (p : Nat) : Nat := skp t b (t - p) p
def ch (p : Nat) : Nat := if p < t then b p else 0
def mm (p : Nat) : Nat := if 49 ≤ ch t b (sk t b (p + 1)) ∧ ch t b (sk t b (p + 1)) ≤ 57 then ch t b (sk t b (p + 1)) - 48 else 1
def p3 (p : Nat) : Nat := if 49 ≤ ch t b (sk t b (p + 1)) ∧ ch t b (sk t b (p + 1)) ≤ 57 then sk t b (p + 1) + 1 else sk t b (p + 1)
def p4 (p : Nat) : Nat := sk t b (p3 t b p)
def p5 (p : Nat) : Nat := if ch t b (p4 t b p) = 46 then p4 t b p + 1 else p4 t b p
def le_ (c : Nat) : Nat := if c = 45 then 0 else c - 96
def Fn (L m l : Nat) (br : Bool) (F : Nat → Nat) : Nat → Nat := fun k => if L ≤ k ∧ k < L + m then l + (if br = true ∧ k = L + m - 1 then 10 else 0) else F k
abbrev vl (c : Nat) : Prop := c = 45 ∨ (97 ≤ c ∧ c ≤ 103)
/-- one sound: where it fails, or what it leaves -/
def rs (s p L : Nat) (F : Nat → Nat) : Nat ⊕ (Nat × Nat × (Nat → Nat)) :=
  if vl (ch t b (sk t b p)) then (if s = 40 ∨ 64 < L + mm t b (sk t b p) then .inl (sk t b p) else .inr (p5 t b (sk t b p), L + mm t b (sk t b p), Fn L (mm t b (sk t b p)) (le_ (ch t b (sk t b p))) (decide (ch t b (p4 t b (sk t b p)) = 46)) F)) else .inl (sk t b p)
end TXT
section SK
variable {t : Nat} {b : Nat → Nat}
theorem sk_y {p : Nat} (h : p < t ∧ b p = 32) : sk t b p = sk t b (p + 1) := by
  unfold sk
  obtain ⟨c, hc⟩ : ∃ c, t - p = c + 1 := ⟨t - p - 1, by omega⟩
  rw [hc, show t - (p + 1) = c by omega]
  exact if_pos h
theorem sk_n {p : Nat} (h : ¬ (p < t ∧ b p = 32)) : sk t b p = p := by
  unfold sk
  cases hc : t - p with
  | zero => rfl
  | succ c => exact if_neg h
theorem sk_ind (P : Nat → Nat → Prop) (h1 : ∀ p, ¬ (p < t ∧ b p = 32) → P p p) (h2 : ∀ p, p < t → b p = 32 → P (p + 1) (sk t b (p + 1)) → P p (sk t b (p + 1))) : ∀ p, P p (sk t b p) := by
  intro p
  induction hc : t - p generalizing p with
  | zero =>
    rw [sk_n (by omega)]
    exact h1 p (by omega)
  | succ c ih =>
    by_cases h : p < t ∧ b p = 32
    · rw [sk_y h]
      exact h2 p h.1 h.2 (ih (p + 1) (by omega))
    · rw [sk_n h]
      exact h1 p h
theorem sk_le {p : Nat} (hp : p ≤ t) : p ≤ sk t b p ∧ sk t b p ≤ t ∧ ¬ (sk t b p < t ∧ b (sk t b p) = 32) := by
  have := sk_ind (t := t) (b := b) (fun p q => p ≤ t → p ≤ q ∧ q ≤ t ∧ ¬ (q < t ∧ b q = 32)) (fun p h hp => ⟨Nat.le_refl p, hp, h⟩) (fun p h1 h2 ih hp => by
    obtain ⟨a1, a2, a3⟩ := ih (by omega)
    exact ⟨by omega, a2, a3⟩)
  exact this p hp
theorem sk_sk {p : Nat} (hp : p ≤ t) : sk t b (sk t b p) = sk t b p := sk_n (sk_le hp).2.2
end SK
def chx (t : Nat) (b : Nat → Nat) (q : Nat) : Int32 := if q < t then nI (b q) else -1
/-- the class's reader -/
def CP (t : Nat) (b : Nat → Nat) (T : St) (p L : Nat) (F : Nat → Nat) : Prop := (rI T 11 0 = nI t ∧ ∀ k, k < t → rI T 14 k = nI (b k)) ∧ rI T 11 3 = nI p ∧ rI T 12 0 = nI L ∧ ∀ k, k < L → rI T 13 k = nI (F k)
def MP (t : Nat) (b : Nat → Nat) (T : St) (p L : Nat) (F : Nat → Nat) : Prop := (rI T 60 5 = nI t ∧ ∀ k, k < t → rI T 65 k = nI (b k)) ∧ rI T 60 6 = nI p ∧ ∀ k, k < L → rI T 66 k = nI (F k)
theorem ch_b {t : Nat} {b : Nat → Nat} (ht : t ≤ 120) (hb : ∀ k, k < t → 32 ≤ b k ∧ b k ≤ 126) (q : Nat) : ch t b q = 0 ∨ (32 ≤ ch t b q ∧ ch t b q ≤ 126) := by
  unfold ch
  split
  · exact Or.inr (hb q (by assumption))
  · exact Or.inl rfl
theorem chx_I {t : Nat} {b : Nat → Nat} (ht : t ≤ 120) (hb : ∀ k, k < t → 32 ≤ b k ∧ b k ≤ 126) (q : Nat) : (chx t b q).toInt = if ch t b q = 0 then -1 else (ch t b q : Int) := by
  unfold chx ch
  by_cases h : q < t
  · have := hb q h
    rw [if_pos h, if_pos h, nT (by omega), if_neg (by omega)]
  · rw [if_neg h, if_neg h, if_pos rfl]
    rfl
theorem peek0 {t : Nat} {b : Nat → Nat} (ht : t ≤ 120) (hb : ∀ k, k < t → 32 ≤ b k ∧ b k ≤ 126) : ∀ m p L F T, t - p < m → p ≤ t → CP t b T p L F → ∃ T', X8_peek_L0 m T = some T' ∧ CP t b T' (sk t b p) L F ∧ Un [11] T T' := by
  intro m
  induction m with
  | zero => intro p L F T h; omega
  | succ m ih =>
    intro p L F T h hp hc
    obtain ⟨⟨c1, c2⟩, c3, c4, c5⟩ := id hc
    by_cases hpt : p < t
    · have e0 : X8_peek_L0 (m + 1) T = if rI T 14 p = 32 then X8_peek_L0 m (wI T 11 3 (nI (p + 1))) else some T := by
        refine (if_neg (by rw [c1, c3]; exact nI_ge hpt (by omega))).trans ?_
        refine (bd (ldB_s T p c3 (by omega))).trans ?_
        rw [c3, nI_1]
        rfl
      have hbp := hb p hpt
      rw [e0, c2 p hpt]
      by_cases h32 : b p = 32
      · rw [sk_y ⟨hpt, h32⟩]
        obtain ⟨T', a1, a2, a3⟩ := ih (p + 1) L F (wI T 11 3 (nI (p + 1))) (by omega) (by omega) ⟨⟨by rw [rI_wI_k (by decide)]; exact c1, fun k hk => by rw [rI_wI_a (by decide)]; exact c2 k hk⟩, rI_wI_s _ _ _ _, by rw [rI_wI_a (by decide)]; exact c4, fun k hk => by rw [rI_wI_a (by decide)]; exact c5 k hk⟩
        refine ⟨T', ?_, a2, (Un.wI _ _ _ _ (by simp)).trs a3⟩
        rw [← a1, h32]
        rfl
      · rw [sk_n (fun z => h32 z.2)]
        exact ⟨T, if_neg (fun z => h32 ((nI_eq (b := 32) (by omega) (by decide)).mp z)), hc, Un.rf _ _⟩
    · rw [sk_n (fun z => hpt z.1)]
      exact ⟨T, if_pos (by rw [c1, c3]; exact nI_le (by omega) (by omega)), hc, Un.rf _ _⟩
theorem peek_ok {t : Nat} {b : Nat → Nat} (ht : t ≤ 120) (hb : ∀ k, k < t → 32 ≤ b k ∧ b k ≤ 126) {p L : Nat} {F : Nat → Nat} {T : St} (hp : p ≤ t) (hc : CP t b T p L F) : ∃ T', X8_peek T = some (chx t b (sk t b p), T') ∧ CP t b T' (sk t b p) L F ∧ Un [11] T T' := by
  obtain ⟨T', a1, a2, a3⟩ := peek0 ht hb FU p L F T (FU_lt (by omega)) hp hc
  refine ⟨T', ?_, a2, a3⟩
  obtain ⟨⟨c1, c2⟩, c3, c4, c5⟩ := a2
  unfold X8_peek chx
  refine (bd a1).trans ?_
  have := (sk_le (t := t) (b := b) hp).2.1
  by_cases h : sk t b p < t
  · rw [if_pos h]
    refine (if_neg (by rw [c1, c3]; exact nI_ge h (by omega))).trans ?_
    exact bd ((ldB_s T' (sk t b p) c3 (by omega)).trans (congrArg some (c2 _ h)))
  · rw [if_neg h]
    exact if_pos (by rw [c1, c3]; exact nI_le (by omega) (by omega))
theorem next0 {t : Nat} {b : Nat → Nat} (ht : t ≤ 120) (hb : ∀ k, k < t → 32 ≤ b k ∧ b k ≤ 126) : ∀ m p L F T, t - p < m → p ≤ t → MP t b T p L F → ∃ T', X11_next_L0 m T = some T' ∧ MP t b T' (sk t b p) L F ∧ Un [60] T T' := by
  intro m
  induction m with
  | zero => intro p L F T h; omega
  | succ m ih =>
    intro p L F T h hp hc
    obtain ⟨⟨c1, c2⟩, c3, c5⟩ := id hc
    by_cases hpt : p < t
    · have e0 : X11_next_L0 (m + 1) T = if rI T 65 p = 32 then X11_next_L0 m (wI T 60 6 (nI (p + 1))) else some T := by
        refine (if_neg (by rw [c1, c3]; exact nI_ge hpt (by omega))).trans ?_
        refine (bd (ldA_s T 65 p rfl c3 (by show _ < 120; omega))).trans ?_
        rw [c3, nI_1]
        rfl
      have hbp := hb p hpt
      rw [e0, c2 p hpt]
      by_cases h32 : b p = 32
      · rw [sk_y ⟨hpt, h32⟩]
        obtain ⟨T', a1, a2, a3⟩ := ih (p + 1) L F (wI T 60 6 (nI (p + 1))) (by omega) (by omega) ⟨⟨by rw [rI_wI_k (by decide)]; exact c1, fun k hk => by rw [rI_wI_a (by decide)]; exact c2 k hk⟩, rI_wI_s _ _ _ _, fun k hk => by rw [rI_wI_a (by decide)]; exact c5 k hk⟩
        refine ⟨T', ?_, a2, (Un.wI _ _ _ _ (by simp)).trs a3⟩
        rw [← a1, h32]
        rfl
      · rw [sk_n (fun z => h32 z.2)]
        exact ⟨T, if_neg (fun z => h32 ((nI_eq (b := 32) (by omega) (by decide)).mp z)), hc, Un.rf _ _⟩
    · rw [sk_n (fun z => hpt z.1)]
      exact ⟨T, if_pos (by rw [c1, c3]; exact nI_le (by omega) (by omega)), hc, Un.rf _ _⟩
theorem next_ok {t : Nat} {b : Nat → Nat} (ht : t ≤ 120) (hb : ∀ k, k < t → 32 ≤ b k ∧ b k ≤ 126) {p L : Nat} {F : Nat → Nat} {T : St} (hp : p ≤ t) (hc : MP t b T p L F) : ∃ T', X11_next T = some (nI (ch t b (sk t b p)), T') ∧ MP t b T' (sk t b p) L F ∧ Un [60] T T' := by
  obtain ⟨T', a1, a2, a3⟩ := next0 ht hb FU p L F T (FU_lt (by omega)) hp hc
  refine ⟨T', ?_, a2, a3⟩
  obtain ⟨⟨c1, c2⟩, c3, c5⟩ := a2
  unfold X11_next ch
  refine (bd a1).trans ?_
  have := (sk_le (t := t) (b := b) hp).2.1
  by_cases h : sk t b p < t
  · rw [if_pos h]
    refine (if_neg (by rw [c1, c3]; exact nI_ge h (by omega))).trans ?_
    exact bd ((ldA_s T' 65 (sk t b p) rfl c3 (by show _ < 120; omega)).trans (congrArg some (c2 _ h)))
  · rw [if_neg h]
    exact if_pos (by rw [c1, c3]; exact nI_le (by omega) (by omega))
theorem append_ok {t : Nat} {b : Nat → Nat} {T : St} {p L m l : Nat} {F : Nat → Nat} (br : Bool) (hL : L + m ≤ 64) (hc : CP t b T p L F) : ∃ T', X5_append T (nI l) (nI m) (if br = true then 1 else 0) = some T' ∧ CP t b T' p (L + m) (Fn L m l br F) ∧ Un [12, 13] T T' := by
  obtain ⟨T', hT, q⟩ := forG (fun fu k (s : St) => X5_append_L3 (nI l) (nI m) (if br = true then 1 else 0) fu (nI k) s) m (fun k s => Un [12, 13] T s ∧ rI s 12 0 = nI (L + k) ∧ ∀ x, x < L + k → rI s 13 x = nI (Fn L m l br F x)) (fun s => Un [12, 13] T s ∧ rI s 12 0 = nI (L + m) ∧ ∀ x, x < L + m → rI s 13 x = nI (Fn L m l br F x)) (fun fu s hp => ⟨s, if_pos (nI_le (Nat.le_refl m) (by omega)), hp⟩) (fun fu k s hk hp => by
    obtain ⟨p1, p2, p3⟩ := hp
    right
    have eF : Fn L m l br F (L + k) = l + (if br = true ∧ L + k = L + m - 1 then 10 else 0) := if_pos (by omega)
    refine ⟨wI (wI s 13 (L + k) (nI (Fn L m l br F (L + k)))) 12 0 (nI (L + k + 1)), ?_, p1.trs ((Un.wI _ _ _ _ (by simp)).trs (Un.wI _ _ _ _ (by simp))), rI_wI_s _ _ _ _, fun x hx => ?_⟩
    · show X5_append_L3 (nI l) (nI m) (if br = true then 1 else 0) (fu + 1) (nI k) s = X5_append_L3 (nI l) (nI m) (if br = true then 1 else 0) fu (nI (k + 1)) _
      refine (if_neg (nI_ge hk (by omega))).trans ?_
      have e1 : (if (if br = true then (1 : Int32) else 0) = 0 then some (0 : Int32) else if nI k = nI m - 1 then some (10 : Int32) else some (0 : Int32)) = some (nI (if br = true ∧ L + k = L + m - 1 then 10 else 0)) := by
        cases br with
        | false =>
          refine (if_pos rfl).trans ?_
          rw [if_neg (by simp)]
          rfl
        | true =>
          refine (if_neg (by decide)).trans ?_
          rw [show nI m - 1 = nI (m - 1) from pk_sub (a := m) (b := 1) (by omega)]
          by_cases hkm : k = m - 1
          · rw [if_pos (by rw [hkm]), if_pos ⟨rfl, by omega⟩]
            rfl
          · rw [if_neg (fun z => hkm ((nI_eq (by omega) (by omega)).mp z)), if_neg (fun z => hkm (by omega))]
            rfl
      refine (bd e1).trans ?_
      rw [nI_add, ← eF]
      refine (bd (stA_s s 13 (L + k) _ rfl p2 (by show _ < 64; omega))).trans ?_
      rw [rI_wI_a (by decide), p2, nI_1, nI_1]
      rfl
    · rw [rI_wI_a (by decide), rI_wI]
      by_cases hxk : x = L + k
      · rw [if_pos ⟨rfl, hxk⟩, hxk]
      · rw [if_neg (fun z => hxk z.2)]
        exact p3 x (by omega)) m FU 0 T (by omega) (FU_lt (by omega)) ⟨Un.rf _ _, hc.2.2.1, fun x hx => by
      rw [hc.2.2.2 x (by omega)]
      unfold Fn
      rw [if_neg (by omega)]⟩
  refine ⟨T', ?_, ⟨⟨((q.1 11 (by decide)).1 0).trans hc.1.1, fun k hk => ((q.1 14 (by decide)).1 k).trans (hc.1.2 k hk)⟩, ((q.1 11 (by decide)).1 3).trans hc.2.1, q.2.1, q.2.2⟩, q.1⟩
  unfold X5_append
  exact bd hT
theorem mfill_r {t : Nat} {b : Nat → Nat} {T : St} {p L m l : Nat} {F : Nat → Nat} (hL : L + m ≤ 64) (hc : MP t b T p L F) : ∃ T', X11_reads_L123 (nI L) (nI l) (nI m) FU 0 T = some T' ∧ MP t b T' p (L + m) (Fn L m l false F) ∧ Un [66] T T' := by
  obtain ⟨T', hT, q⟩ := forG (fun fu k (s : St) => X11_reads_L123 (nI L) (nI l) (nI m) fu (nI k) s) m (fun k s => Un [66] T s ∧ ∀ x, x < L + k → rI s 66 x = nI (Fn L m l false F x)) (fun s => Un [66] T s ∧ ∀ x, x < L + m → rI s 66 x = nI (Fn L m l false F x)) (fun fu s hp => ⟨s, if_pos (nI_le (Nat.le_refl m) (by omega)), hp⟩) (fun fu k s hk hp => by
    obtain ⟨p1, p2⟩ := hp
    right
    have eF : Fn L m l false F (L + k) = l := by
      unfold Fn
      rw [if_pos (by omega), if_neg (by simp)]
      rfl
    refine ⟨wI s 66 (L + k) (nI l), ?_, p1.trs (Un.wI _ _ _ _ (by simp)), fun x hx => ?_⟩
    · show X11_reads_L123 (nI L) (nI l) (nI m) (fu + 1) (nI k) s = X11_reads_L123 (nI L) (nI l) (nI m) fu (nI (k + 1)) _
      refine (if_neg (nI_ge hk (by omega))).trans ?_
      refine (bd (stA_s s 66 (L + k) _ rfl (nI_add L k) (by show _ < 64; omega))).trans ?_
      rw [nI_1]
    · rw [rI_wI]
      by_cases hxk : x = L + k
      · rw [if_pos ⟨rfl, hxk⟩, hxk, eF]
      · rw [if_neg (fun z => hxk z.2)]
        exact p2 x (by omega)) m FU 0 T (by omega) (FU_lt (by omega)) ⟨Un.rf _ _, fun x hx => by
      rw [hc.2.2 x (by omega)]
      unfold Fn
      rw [if_neg (by omega)]⟩
  exact ⟨T', hT, ⟨⟨((q.1 60 (by decide)).1 5).trans hc.1.1, fun k hk => ((q.1 65 (by decide)).1 k).trans (hc.1.2 k hk)⟩, ((q.1 60 (by decide)).1 6).trans hc.2.1, q.2⟩, q.1⟩
