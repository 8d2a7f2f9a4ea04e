/-! the whole piece, on both sides -/
section RPD
variable (t : Nat) (b : Nat → Nat)
def rp : Nat → Nat → Nat → Nat → (Nat → Nat) → Nat ⊕ (Nat × (Nat → Nat))
  | 0, _, p, _, _ => .inl p
  | c + 1, s, p, L, F => match rs t b s p L F with
    | .inl q => .inl q
    | .inr (q, L', F') => if t ≤ sk t b q then .inr (L', F') else rp c (s + 1) (sk t b q) L' F'
end RPD
def gF (L : Nat) (F : Nat → Nat) : Prop := L ≤ 64 ∧ ∀ k, k < L → F k % 10 ≤ 7 ∧ F k ≤ 17
section RPL
variable {t : Nat} {b : Nat → Nat}
theorem rp_sk {c s p L : Nat} {F : Nat → Nat} (hp : p ≤ t) : rp t b (c + 1) s (sk t b p) L F = rp t b (c + 1) s p L F := by
  show (match rs t b s (sk t b p) L F with
    | .inl q => (Sum.inl q : Nat ⊕ (Nat × (Nat → Nat)))
    | .inr (q, L', F') => if t ≤ sk t b q then (Sum.inr (L', F') : Nat ⊕ (Nat × (Nat → Nat))) else rp t b c (s + 1) (sk t b q) L' F') = _
  rw [rs_sk hp]
  rfl
theorem rp_inl {c s p L q : Nat} {F : Nat → Nat} (h : rs t b s p L F = .inl q) : rp t b (c + 1) s p L F = .inl q := by
  show (match rs t b s p L F with
    | .inl q => (Sum.inl q : Nat ⊕ (Nat × (Nat → Nat)))
    | .inr (q, L', F') => if t ≤ sk t b q then (Sum.inr (L', F') : Nat ⊕ (Nat × (Nat → Nat))) else rp t b c (s + 1) (sk t b q) L' F') = _
  rw [h]
theorem rp_inr {c s p L q L' : Nat} {F F' : Nat → Nat} (h : rs t b s p L F = .inr (q, L', F')) : rp t b (c + 1) s p L F = if t ≤ sk t b q then .inr (L', F') else rp t b c (s + 1) (sk t b q) L' F' := by
  show (match rs t b s p L F with
    | .inl q => (Sum.inl q : Nat ⊕ (Nat × (Nat → Nat)))
    | .inr (q, L', F') => if t ≤ sk t b q then (Sum.inr (L', F') : Nat ⊕ (Nat × (Nat → Nat))) else rp t b c (s + 1) (sk t b q) L' F') = _
  rw [h]
theorem rs_inl {s p L q : Nat} {F : Nat → Nat} (hp : p ≤ t) (h : rs t b s p L F = .inl q) : q ≤ t := by
  have k1 := sk_le (t := t) (b := b) hp
  unfold rs at h
  split at h
  · split at h
    · cases h
      exact k1.2.1
    · cases h
  · cases h
    exact k1.2.1
theorem rs_inr (hb : ∀ k, k < t → 32 ≤ b k ∧ b k ≤ 126) {s p L q L' : Nat} {F F' : Nat → Nat} (hp : p ≤ t) (hg : gF L F) (h : rs t b s p L F = .inr (q, L', F')) : s ≠ 40 ∧ q ≤ t ∧ 1 ≤ L' ∧ gF L' F' := by
  have k1 := sk_le (t := t) (b := b) hp
  have k2 := ch_0 hb (sk t b p)
  have m1 := mm_b (t := t) (b := b) (sk t b p)
  unfold rs at h
  split at h
  · rename_i hv
    have hv : ch t b (sk t b p) = 45 ∨ (97 ≤ ch t b (sk t b p) ∧ ch t b (sk t b p) ≤ 103) := hv
    split at h
    · cases h
    · rename_i h0
      cases h
      refine ⟨fun z => h0 (Or.inl z), p5_le hb (by omega), by omega, by omega, fun k hk => ?_⟩
      have hl : le_ (ch t b (sk t b p)) ≤ 7 := by
        unfold le_
        split <;> omega
      unfold Fn
      split
      · split <;> omega
      · exact hg.2 k (by omega)
  · cases h
theorem read15 (ht : t ≤ 120) (hb : ∀ k, k < t → 32 ≤ b k ∧ b k ≤ 126) : ∀ n c s p L F T, c + s = 40 → c + 1 < n → p ≤ t → gF L F → (s = 0 ∨ ¬ t ≤ sk t b p) → CP t b T p L F → ∃ T', Un [11, 12, 13] T T' ∧ ((∃ q, rp t b (c + 1) s p L F = .inl q ∧ X8_read_L15 n (nI s) T = some (.inl T') ∧ rI T' 11 3 = nI q ∧ q ≤ t) ∨ (∃ L' F', rp t b (c + 1) s p L F = .inr (L', F') ∧ X8_read_L15 n (nI s) T = some (.inr (nI L', T')) ∧ rI T' 12 0 = nI L' ∧ (∀ k, k < L' → rI T' 13 k = nI (F' k)) ∧ 1 ≤ L' ∧ gF L' F')) := by
  intro n
  induction n with
  | zero => intro c s p L F T _ h; omega
  | succ n ih =>
    intro c s p L F T hcs hn hp hg h0 hc
    obtain ⟨T1, p', u1, hp', c1, er, e1⟩ : ∃ T1 p', Un [11, 12, 13] T T1 ∧ p' ≤ t ∧ CP t b T1 p' L F ∧ rs t b s p' L F = rs t b s p L F ∧ X8_read_L15 (n + 1) (nI s) T = (X8_readSound T1 (nI s)).bind (fun (x8, S9) => if x8 = 0 then some (.inl S9) else X8_read_L15 n (nI s + 1) S9) := by
      rcases Nat.eq_zero_or_pos s with hs | hs
      · subst hs
        refine ⟨T, p, Un.rf _ _, hp, hc, rfl, ?_⟩
        exact (if_neg (by decide)).trans (if_pos (by decide))
      · obtain ⟨T1, a1, a2, a3⟩ := peek_ok ht hb hp hc
        refine ⟨T1, sk t b p, a3.mono (by simp), (sk_le hp).2.1, a2, rs_sk hp, ?_⟩
        refine (if_neg (nI_nlt (b := s) (a := 40) (by omega) (by decide))).trans ?_
        refine (if_neg (nI_nle hs (by omega))).trans ?_
        refine (bd a1).trans ?_
        refine if_neg (fun z => ?_)
        have e := chx_I ht hb (sk t b p)
        have := (i_eq _ (-1) (-1)).mp z
        rw [e, if_neg (by rw [ch_0 hb]; omega)] at this
        omega
    obtain ⟨T2, u2, g⟩ := readSound_ok ht hb (show s ≤ 40 by omega) hg.1 hp' c1
    rcases g with ⟨q, g1, g2, g3⟩ | ⟨q, L', F', g1, g2, g3⟩
    · refine ⟨T2, u1.trs u2, Or.inl ⟨q, rp_inl (er.symm.trans g1), ?_, g3, rs_inl hp' g1⟩⟩
      rw [e1]
      exact (bd g2).trans (if_pos rfl)
    · have r := rs_inr hb hp' hg g1
      obtain ⟨c', rfl⟩ : ∃ c', c = c' + 1 := ⟨c - 1, by omega⟩
      have e2 : X8_read_L15 (n + 1) (nI s) T = X8_read_L15 n (nI (s + 1)) T2 := by
        rw [e1]
        refine (bd g2).trans ((if_neg (by decide)).trans ?_)
        rw [nI_1]
      have e3 : rp t b (c' + 1 + 1) s p L F = if t ≤ sk t b q then .inr (L', F') else rp t b (c' + 1) (s + 1) q L' F' := by
        rw [rp_inr (er.symm.trans g1), rp_sk r.2.1]
      by_cases hq : t ≤ sk t b q
      · obtain ⟨T3, a1, a2, a3⟩ := peek_ok ht hb r.2.1 g3
        refine ⟨T3, u1.trs (u2.trs (a3.mono (by simp))), Or.inr ⟨L', F', by rw [e3, if_pos hq], ?_, a2.2.2.1, a2.2.2.2, r.2.2⟩⟩
        obtain ⟨n', rfl⟩ : ∃ n', n = n' + 1 := ⟨n - 1, by omega⟩
        rw [e2]
        refine (if_neg (nI_nlt (b := s + 1) (a := 40) (by omega) (by decide))).trans ?_
        refine (if_neg (nI_nle (by omega) (by omega))).trans ?_
        refine (bd a1).trans ?_
        refine (if_pos ?_).trans ?_
        · unfold chx
          rw [if_neg (by omega)]
        · rw [a2.2.2.1]
      · obtain ⟨T3, u3, g⟩ := ih c' (s + 1) q L' F' T2 (by omega) (by omega) r.2.1 r.2.2.2 (Or.inr hq) g3
        refine ⟨T3, u1.trs (u2.trs u3), ?_⟩
        rw [e2, e3, if_neg hq]
        exact g
theorem gF0 : gF 0 (fun _ => 0) := ⟨by omega, fun k hk => by omega⟩
theorem read_ok {S : St} (ht : t ≤ 120) (hb : ∀ k, k < t → 32 ≤ b k ∧ b k ≤ 126) (h1 : rI S 11 0 = nI t) (h2 : ∀ k, k < t → rI S 14 k = nI (b k)) : ∃ T', Un [11, 12, 13] S T' ∧ ((∃ q, rp t b 41 0 0 0 (fun _ => 0) = .inl q ∧ X8_read S = some (-20 - nI q, T') ∧ q ≤ t) ∨ (∃ L' F', rp t b 41 0 0 0 (fun _ => 0) = .inr (L', F') ∧ X8_read S = some (nI L', T') ∧ rI T' 12 0 = nI L' ∧ (∀ k, k < L' → rI T' 13 k = nI (F' k)) ∧ 1 ≤ L' ∧ gF L' F')) := by
  have hc : CP t b (wI (wI S 12 0 0) 11 3 0) 0 0 (fun _ => 0) := ⟨⟨by rw [rI_wI_k (by decide), rI_wI_a (by decide)]; exact h1, fun k hk => by rw [rI_wI_a (by decide), rI_wI_a (by decide)]; exact h2 k hk⟩, rI_wI_s _ _ _ _, by rw [rI_wI_a (by decide)]; exact rI_wI_s _ _ _ _, fun k hk => by omega⟩
  obtain ⟨T, u, g⟩ := read15 ht hb FU 40 0 0 0 (fun _ => 0) _ (by omega) (FU_lt (by omega)) (by omega) gF0 (Or.inl rfl) hc
  refine ⟨T, (Un.wI _ _ _ _ (by simp)).trs ((Un.wI _ _ _ _ (by simp)).trs u), ?_⟩
  rcases g with ⟨q, g1, g2, g3, g4⟩ | ⟨L', F', g1, g2, g3⟩
  · refine Or.inl ⟨q, g1, ?_, g4⟩
    unfold X8_read
    refine (bd (rfl : stF S 12 0 0 = some (wI S 12 0 0))).trans ?_
    refine (bd (rfl : stF (wI S 12 0 0) 11 3 0 = some (wI (wI S 12 0 0) 11 3 0))).trans ?_
    refine (bd g2).trans ?_
    show some (-20 - rI T 11 3, T) = _
    rw [g3]
  · refine Or.inr ⟨L', F', g1, ?_, g3⟩
    unfold X8_read
    refine (bd (rfl : stF S 12 0 0 = some (wI S 12 0 0))).trans ?_
    refine (bd (rfl : stF (wI S 12 0 0) 11 3 0 = some (wI (wI S 12 0 0) 11 3 0))).trans ?_
    exact bd g2
theorem mp11 (ht : t ≤ 120) (hb : ∀ k, k < t → 32 ≤ b k ∧ b k ≤ 126) : ∀ n c s p L F T, c + s = 40 → c + 2 < n → p ≤ t → gF L F → MP t b T p L F → ∃ T', Un [60, 66] T T' ∧ ((∃ q, rp t b (c + 1) s p L F = .inl q ∧ X11_piece_L11 n (nI L) (nI s) 1 T = some (-1, T') ∧ rI T' 60 6 = nI q) ∨ (∃ L' F', rp t b (c + 1) s p L F = .inr (L', F') ∧ X11_piece_L11 n (nI L) (nI s) 1 T = some (nI L', T') ∧ ∀ k, k < L' → rI T' 66 k = nI (F' k))) := by
  intro n
  induction n with
  | zero => intro c s p L F T _ h; omega
  | succ n ih =>
    intro c s p L F T hcs hn hp hg hc
    obtain ⟨T2, u2, g⟩ := reads_ok ht hb (show s ≤ 40 by omega) hg.1 hp hc
    obtain ⟨n', rfl⟩ : ∃ n', n = n' + 1 := ⟨n - 1, by omega⟩
    rcases g with ⟨q, g1, g2, g3⟩ | ⟨q, L', F', g1, g2, g3⟩
    · refine ⟨T2, u2, Or.inl ⟨q, rp_inl g1, ?_, g3⟩⟩
      refine (if_neg (by decide)).trans ?_
      refine (bd g2).trans ?_
      refine (bd (if_pos (by decide))).trans ?_
      exact if_pos rfl
    · have r := rs_inr hb hp hg g1
      obtain ⟨c', rfl⟩ : ∃ c', c = c' + 1 := ⟨c - 1, by omega⟩
      obtain ⟨T3, a1, a2, a3⟩ := next_ok ht hb r.2.1 g3
      have h0 := ch_0 hb (sk t b q)
      have hbn := ch_b ht hb (sk t b q)
      have e2 : X11_piece_L11 (n' + 1 + 1) (nI L) (nI s) 1 T = X11_piece_L11 (n' + 1) (nI L') (nI (s + 1)) (if t ≤ sk t b q then 0 else 1) T3 := by
        refine (if_neg (by decide)).trans ?_
        refine (bd g2).trans ?_
        have hL := r.2.2.2.1
        refine (bd (a := ((if t ≤ sk t b q then 0 else 1), T3)) ((if_neg (nI_pos (by omega))).trans ((bd a1).trans ?_))).trans ?_
        · show (if nI (ch t b (sk t b q)) = 0 then some ((0 : Int32), T3) else some ((1 : Int32), T3)) = _
          by_cases z : t ≤ sk t b q
          · rw [if_pos z, if_pos (by rw [h0.mpr z]; rfl)]
          · rw [if_neg z, if_neg (nI_ne0 (by omega) (by omega))]
        · show X11_piece_L11 (n' + 1) (nI L') (nI s + 1) _ T3 = _
          rw [nI_1]
      have e3 : rp t b (c' + 1 + 1) s p L F = if t ≤ sk t b q then .inr (L', F') else rp t b (c' + 1) (s + 1) (sk t b q) L' F' := rp_inr g1
      by_cases hq : t ≤ sk t b q
      · refine ⟨T3, u2.trs (a3.mono (by simp)), Or.inr ⟨L', F', by rw [e3, if_pos hq], ?_, a2.2.2⟩⟩
        rw [e2, if_pos hq]
        exact if_pos rfl
      · obtain ⟨T4, u4, g⟩ := ih c' (s + 1) (sk t b q) L' F' T3 (by omega) (by omega) (sk_le r.2.1).2.1 r.2.2.2 a2
        refine ⟨T4, u2.trs ((a3.mono (by simp)).trs u4), ?_⟩
        rw [e2, e3, if_neg hq, if_neg hq]
        exact g
end RPL
theorem mcopy_p (S : St) {L : Nat} (hL : L ≤ 64) : ∃ T, X11_piece_L65 (nI L) FU 0 S = some T ∧ Un [61] S T ∧ ∀ x, rI T 61 x = if 136 ≤ x ∧ x < 136 + L then rI S 66 (x - 136) else rI S 61 x := by
  obtain ⟨T, hT, q⟩ := forG (fun fu k (s : St) => X11_piece_L65 (nI L) fu (nI k) s) L (fun k s => Un [61] S s ∧ ∀ x, rI s 61 x = if 136 ≤ x ∧ x < 136 + k then rI S 66 (x - 136) else rI S 61 x) (fun s => Un [61] S s ∧ ∀ x, rI s 61 x = if 136 ≤ x ∧ x < 136 + L then rI S 66 (x - 136) else rI S 61 x) (fun fu s hp => ⟨s, if_pos (nI_le (Nat.le_refl L) (by omega)), hp⟩) (fun fu k s hk hp => by
    obtain ⟨p1, p2⟩ := hp
    right
    refine ⟨wI s 61 (136 + k) (rI S 66 k), ?_, p1.trs (Un.wI _ _ _ _ (by simp)), fun x => ?_⟩
    · show X11_piece_L65 (nI L) (fu + 1) (nI k) s = X11_piece_L65 (nI L) fu (nI (k + 1)) _
      refine (if_neg (nI_ge hk (by omega))).trans ?_
      refine (bd ((ldA_s s 66 k rfl rfl (by show _ < 64; omega)).trans (congrArg some ((p1 66 (by decide)).1 k)))).trans ?_
      refine (bd (stA_s s 61 (136 + k) _ rfl (nI_add 136 k) (by show _ < 648; omega))).trans ?_
      rw [nI_1]
    · rw [rI_wI]
      by_cases hx : x = 136 + k
      · rw [if_pos ⟨rfl, hx⟩, if_pos (by omega), hx, show 136 + k - 136 = k by omega]
      · rw [if_neg (fun z => hx z.2), p2 x]
        by_cases hy : 136 ≤ x ∧ x < 136 + k
        · rw [if_pos hy, if_pos (by omega)]
        · rw [if_neg hy, if_neg (by omega)]) L FU 0 S (by omega) (FU_lt (by omega)) ⟨Un.rf _ _, fun x => by rw [if_neg (by omega)]⟩
  exact ⟨T, hT, q⟩
theorem st_piece : ∀ (S : St) , Inv S → ∃ (r : Int32) (S1 : St) (S2 : St), X10_piece S  = some (r, S1) ∧ X11_piece S1  = some (r, S2) ∧ Inv S2 := by
  intro S hI
  obtain ⟨⟨A, hw, hx, hm⟩, -, ⟨t, b, t1, t2, t3, t4⟩, -, hr⟩ := id hI
  have hb : ∀ k, k < t → 32 ≤ b k ∧ b k ≤ 126 := fun k hk => ⟨(t4 k hk).1, (t4 k hk).2.1⟩
  obtain ⟨T1, u1, g⟩ := read_ok t1 hb t2 (fun k hk => (t4 k hk).2.2.1)
  have mgo : ∀ U : St, rI U 60 5 = nI t → (∀ k, k < t → rI U 65 k = nI (b k)) → ∃ V, Un [60, 66] U V ∧ ((∃ q, rp t b 41 0 0 0 (fun _ => 0) = .inl q ∧ X11_piece_L11 FU 0 0 1 (wI U 60 6 0) = some (-1, V) ∧ rI V 60 6 = nI q) ∨ (∃ L' F', rp t b 41 0 0 0 (fun _ => 0) = .inr (L', F') ∧ X11_piece_L11 FU 0 0 1 (wI U 60 6 0) = some (nI L', V) ∧ ∀ k, k < L' → rI V 66 k = nI (F' k))) := by
    intro U h1 h2
    have hc : MP t b (wI U 60 6 0) 0 0 (fun _ => 0) := ⟨⟨by rw [rI_wI_k (by decide)]; exact h1, fun k hk => by rw [rI_wI_a (by decide)]; exact h2 k hk⟩, rI_wI_s _ _ _ _, fun k hk => by omega⟩
    obtain ⟨V, v1, v2⟩ := mp11 t1 hb FU 40 0 0 0 (fun _ => 0) _ (by omega) (FU_lt (by omega)) (by omega) gF0 hc
    exact ⟨V, (Un.wI _ _ _ _ (by simp)).trs v1, v2⟩
  rcases g with ⟨q, g1, g2, g3⟩ | ⟨L, F, g1, g2, g3, g4, g5, g6⟩
  · have eX : X10_piece S = some (-20 - nI q, wI T1 11 0 0) := by
      unfold X10_piece
      refine (bd g2).trans ?_
      refine (bd (if_pos ?_)).trans rfl
      rw [i_le _ 0 0, show (-20 - nI q : Int32).toInt = -20 - (q : Int) by
        have e1 : (-20 : Int32).toInt = -20 := by decide
        have e2 := nT (n := q) (by omega)
        rw [subI (by rw [e1, e2]; omega) (by rw [e1, e2]; omega), e1, e2]]
      omega
    have u2 : Un [11, 12, 13] S (wI T1 11 0 0) := u1.trs (Un.wI _ _ _ _ (by simp))
    obtain ⟨V, v1, v2⟩ := mgo (wI T1 11 0 0) (((u2 60 (by decide)).1 5).trans t3) (fun k hk => ((u2 65 (by decide)).1 k).trans (t4 k hk).2.2.2)
    rcases v2 with ⟨q', w1, w2, w3⟩ | ⟨L', F', w1, w2, w3⟩
    · have hq : q' = q := Sum.inl.inj (w1.symm.trans g1)
      subst hq
      have hu : Un [11, 12, 13, 60, 66] S (wI V 60 5 0) := (u2.mono (by simp)).trs ((v1.mono (by simp)).trs (Un.wI _ _ _ _ (by simp)))
      refine ⟨_, _, wI V 60 5 0, eX, ?_, ?_⟩
      · unfold X11_piece
        refine (bd (rfl : stF _ 60 6 0 = some _)).trans ?_
        refine (bd w2).trans ?_
        refine (bd (rfl : stF V 60 5 0 = some _)).trans ?_
        refine (if_neg (by decide)).trans ?_
        rw [rI_wI_k (by decide), w3]
      · refine hI.g hu (by decide) hw (hx.un hu (fun k hk => by simp <;> omega)) (hm.un hu (by decide) (by decide)) ?_ (hr.un hu (by decide) (by decide))
        refine ⟨0, fun _ => 0, by omega, ?_, rI_wI_s _ _ _ _, fun k hk => by omega⟩
        rw [rI_wI_a (by decide), (v1 11 (by decide)).1]
        exact rI_wI_s _ _ _ _
    · cases w1.symm.trans g1
  · obtain ⟨T2, a1, a2, a3, a4⟩ := t5_ok (S := T1) (p := 6) (q := 12) (by omega) ⟨⟨rfl, rfl, in_sid T1 rfl⟩, ⟨rfl, rfl, in_sid T1 rfl⟩⟩ ⟨⟨rfl, rfl, in_sid T1 rfl⟩, ⟨rfl, rfl, in_sid T1 rfl⟩⟩
    have hL : L ≤ 64 := g6.1
    have eX : X10_piece S = some (nI L, wI T2 11 0 0) := by
      unfold X10_piece
      refine (bd g2).trans ?_
      refine (bd ((if_neg (nI_nle (by omega) (by omega))).trans (bd a1))).trans rfl
    have u2 : Un [6, 7, 11, 12, 13] S (wI T2 11 0 0) := (u1.mono (by simp)).trs ((a2.mono (by simp)).trs (Un.wI _ _ _ _ (by simp)))
    obtain ⟨V, v1, v2⟩ := mgo (wI T2 11 0 0) (((u2 60 (by decide)).1 5).trans t3) (fun k hk => ((u2 65 (by decide)).1 k).trans (t4 k hk).2.2.2)
    rcases v2 with ⟨q', w1, w2, w3⟩ | ⟨L', F', w1, w2, w3⟩
    · cases w1.symm.trans g1
    · have hq : (L', F') = (L, F) := Sum.inr.inj (w1.symm.trans g1)
      cases hq
      obtain ⟨Y, y1, y2, y3⟩ := mcopy_p (wI V 60 5 0) hL
      have hu : Un [6, 7, 11, 12, 13, 60, 61, 66] S (wI Y 61 130 (nI L)) := (u2.mono (by simp)).trs ((v1.mono (by simp)).trs ((Un.wI _ _ _ _ (by simp)).trs ((y2.mono (by simp)).trs (Un.wI _ _ _ _ (by simp)))))
      have m61 : ∀ x, rI (wI V 60 5 0) 61 x = rI S 61 x := fun x => by
        rw [rI_wI_a (by decide), (v1 61 (by decide)).1, (u2 61 (by decide)).1]
      refine ⟨nI L, _, wI Y 61 130 (nI L), eX, ?_, ?_⟩
      · unfold X11_piece
        refine (bd (rfl : stF _ 60 6 0 = some _)).trans ?_
        refine (bd w2).trans ?_
        refine (bd (rfl : stF V 60 5 0 = some _)).trans ?_
        refine (if_pos (nI_pos' (by omega))).trans ?_
        refine (bd y1).trans ?_
        exact bd (stA_s Y 61 130 _ rfl rfl (by decide))
      · refine hI.g hu (by decide) (A := (A.n, A.val, A.wire, A.lo, A.pace, A.fit, A.most, L, F, A.ln, A.los)) ?_ ?_ ?_ ?_ (hr.un hu (by decide) (by decide))
        · obtain ⟨w1, w2, w3, w4, w5, w6, w7, w8, w9, w10⟩ := hw
          exact ⟨w1, w2, w3, w4, w5, w6, w7, g6.1, g6.2, w10⟩
        · have eo : ∀ x, x ∉ [6, 7, 11, 12, 13, 60, 61, 66] → ∀ j, rI (wI Y 61 130 (nI L)) x j = rI S x j := fun x h => (hu x h).1
          have e6 : ∀ x, x ≠ 60 → x ≠ 61 → x ≠ 66 → x ≠ 11 → ∀ j, rI (wI Y 61 130 (nI L)) x j = rI T2 x j := fun x h1 h2 h3 h4 j => by
            rw [rI_wI_a h2, (y2 x (by simp; omega)).1, rI_wI_a h1, (v1 x (by simp; omega)).1, rI_wI_a h4]
          obtain ⟨q1, q2, q3, q4, q5, q6⟩ := hx
          refine ⟨⟨(eo 2 (by decide) _).trans q1.1, (eo 2 (by decide) _).trans q1.2.1, (eo 2 (by decide) _).trans q1.2.2.1, (eo 1 (by decide) _).trans q1.2.2.2.1, (e6 6 (by decide) (by decide) (by decide) (by decide) _).trans (a3.trans g3), (eo 8 (by decide) _).trans q1.2.2.2.2.2⟩, fun r w h1 h2 => (eo 3 (by decide) _).trans (q2 r w h1 h2), fun r w h1 h2 => (eo 4 (by decide) _).trans (q3 r w h1 h2), fun d f h1 h2 => (eo 5 (by decide) _).trans (q4 d f h1 h2), fun k h => (e6 7 (by decide) (by decide) (by decide) (by decide) _).trans ((a4 k (by have h : k < L := h; omega)).trans (g4 k h)), fun k h => ((hu 9 (by decide)).2.1 k).trans (q6 k h)⟩
        · have hn := hw.1
          have e : ∀ j, j ≠ 130 → (j < 136 ∨ 200 ≤ j) → rI (wI Y 61 130 (nI L)) 61 j = rI S 61 j := fun j h1 h2 => by
            rw [rI_wI_k h1, y3, if_neg (by omega), m61]
          obtain ⟨⟨h1, h2, h3, h4, h5, h6⟩, h7, h8, h9, h10, h11, h12⟩ := hm
          refine ⟨⟨(e _ (by decide) (by decide)).trans h1, (e _ (by decide) (by decide)).trans h2, (e _ (by decide) (by decide)).trans h3, (e _ (by decide) (by decide)).trans h4, rI_wI_s _ _ _ _, (e _ (by decide) (by decide)).trans h6⟩, fun r w z1 z2 => (e _ (by have z1 : r < A.n := z1; omega) (by have z1 : r < A.n := z1; omega)).trans (h7 r w z1 z2), fun r w z1 z2 z3 z4 => (e _ (by omega) (by omega)).trans (h8 r w z1 z2 z3 z4), fun f s z1 z2 => (e _ (by omega) (by omega)).trans (h9 f s z1 z2), fun d f s z1 z2 z3 => (e _ (by omega) (by omega)).trans (h10 d f s z1 z2 z3), fun k z => ?_, fun k z => ((hu 62 (by decide)).2.1 _).trans (h12 k z)⟩
          have z : k < L := z
          show rI (wI Y 61 130 (nI L)) 61 (0 + 136 + k) = nI (F k)
          rw [rI_wI_k (by omega), y3, if_pos (by omega), rI_wI_a (by decide), show 0 + 136 + k - 136 = k by omega]
          exact w3 k z
        · refine ⟨0, fun _ => 0, by omega, ?_, ?_, fun k hk => by omega⟩
          · rw [rI_wI_a (by decide), (y2 11 (by decide)).1, rI_wI_a (by decide), (v1 11 (by decide)).1]
            exact rI_wI_s _ _ _ _
          · rw [rI_wI_a (by decide), (y2 60 (by decide)).1]
            exact rI_wI_s _ _ _ _
