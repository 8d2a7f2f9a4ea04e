/-! the beats: what is heard, and the mean lag -/
theorem w25 {p : Nat} (hp : p = 25 ∨ p = 26) : stat 1 p = true ∧ kl p = 8 := by
  rcases hp with rfl | rfl <;> exact ⟨rfl, rfl⟩
/-- r hears o -/
def hr (A : Ch) (r o : Nat) : Bool := sg A o && decide (0 < A.wire o r)
def tk (A : Ch) (same o r : Nat) : Int32 := if same = 0 then nI (A.wire o r) else nI same
def WS (A : Ch) (same r k : Nat) : Int32 := fo (fun o (v : Int32) => if hr A r o = true then v + tk A same o r else v) 0 k 0
def gs (A : Ch) (r : Nat) : Int32 := if A.val r 0 = 3 then nI (A.val r 4) else 0
def MS (A : Ch) (same : Nat) (t : Nat → Int32) (r k : Nat) : Int32 := fo (fun o (v : Int32) => if hr A r o = true then v + (((t o + tk A same o r) - gs A r) - t r) else v) 0 k 0
def TS (A : Ch) (t : Nat → Int32) (r k : Nat) : Int32 := fo (fun o (v : Int32) => if hr A r o = true then v + t o else v) 0 k 0
def lag (A : Ch) (same : Nat) (t : Nat → Int32) (r : Nat) : Int32 := if cb (hr A r) A.n = 0 then 0 else MS A same t r A.n / nI (cb (hr A r) A.n)
def nxX (A : Ch) (same : Nat) (t : Nat → Int32) (r : Nat) : Int32 := ((t r + nI A.pace) + nI (A.val r 1)) + (nI (A.val r 2) * lag A same t r) / 100
def tm (A : Ch) (same : Nat) : Nat → Nat → Int32
  | 0, r => if A.val r 0 = 2 then -nI (A.val r 3) else 0
  | d + 1, r => if A.val r 0 = 1 then nI (d + 1) * nI A.pace else if A.val r 0 = 2 then nI (d + 1) * nI A.pace - nI (A.val r 3) else if tm A same d r < nxX A same (tm A same d) r then nxX A same (tm A same d) r else tm A same d r + 1
/-- what listening leaves for one hearer -/
def Lr (A : Ch) (same : Nat) (T : St) (r k : Nat) : Prop := rI T 28 r = nI (cb (hr A r) k) ∧ (∀ j, j < k → hr A r j = true → rI T 27 (8 * r + cb (hr A r) j) = nI j) ∧ rI T 29 r = WS A same r k
theorem cb_mono (p : Nat → Bool) {a b : Nat} (h : a ≤ b) : cb p a ≤ cb p b := by
  obtain ⟨c, rfl⟩ : ∃ c, b = a + c := ⟨b - a, by omega⟩
  clear h
  induction c with
  | zero => exact Nat.le_refl _
  | succ c ih =>
    have : cb p (a + c + 1) = cb p (a + c) + if p (a + c) then 1 else 0 := rfl
    show cb p a ≤ cb p (a + c + 1)
    rw [this]
    omega
theorem cb_y {p : Nat → Bool} {k : Nat} (h : p k = true) : cb p (k + 1) = cb p k + 1 := by
  show cb p k + (if p k then 1 else 0) = _
  rw [if_pos h]
theorem cb_n {p : Nat → Bool} {k : Nat} (h : ¬ p k = true) : cb p (k + 1) = cb p k := by
  show cb p k + (if p k then 1 else 0) = _
  rw [if_neg h]
  rfl
section LI
variable {S : St} {A : Ch}
theorem hr_iff {r o : Nat} : hr A r o = true ↔ A.val o 0 < 4 ∧ 0 < A.wire o r := by
  unfold hr
  simp
theorem lis1 (hx : HX S 1 A) (hw : Wf A) {to : Nat} (hto : to < A.n) (h28 : rI S 28 to = 0) (h29 : rI S 29 to = 0) : ∃ T, X0_listen_L26 (nI to) FU 0 S = some T ∧ Un [27, 28, 29] S T ∧ Lr A 0 T to A.n ∧ (∀ x, x ≠ to → rI T 28 x = rI S 28 x ∧ rI T 29 x = rI S 29 x) ∧ ∀ y, (y < 8 * to ∨ 8 * to + 8 ≤ y) → rI T 27 y = rI S 27 y := by
  have hn := hw.1
  obtain ⟨T, hT, q⟩ := forG (fun m k (s : St) => X0_listen_L26 (nI to) m (nI k) s) A.n (fun k s => Un [27, 28, 29] S s ∧ Lr A 0 s to k ∧ (∀ x, x ≠ to → rI s 28 x = rI S 28 x ∧ rI s 29 x = rI S 29 x) ∧ ∀ y, (y < 8 * to ∨ 8 * to + 8 ≤ y) → rI s 27 y = rI S 27 y) (fun s => Un [27, 28, 29] S s ∧ Lr A 0 s to A.n ∧ (∀ x, x ≠ to → rI s 28 x = rI S 28 x ∧ rI s 29 x = rI S 29 x) ∧ ∀ y, (y < 8 * to ∨ 8 * to + 8 ≤ y) → rI s 27 y = rI S 27 y) (fun m s hp => ⟨s, if_pos (by rw [(hp.1 2 (by decide)).1]; exact xle hx hw), hp⟩) (fun m k s hk hp => by
    obtain ⟨p1, ⟨p2, p3, p4⟩, p5, p6⟩ := hp
    have hxs : HX s 1 A := hx.un p1 (fun k hk => by simp <;> omega)
    have hcb := cb_le (hr A to) k
    right
    by_cases hh : hr A to k = true
    · obtain ⟨h1, h2⟩ := hr_iff.mp hh
      obtain ⟨s1, e1⟩ : ∃ s1, s1 = wI s 27 (8 * to + cb (hr A to) k) (nI k) := ⟨_, rfl⟩
      obtain ⟨s2, e2⟩ : ∃ s2, s2 = wI s1 28 to (nI (cb (hr A to) k + 1)) := ⟨_, rfl⟩
      obtain ⟨s3, e3⟩ : ∃ s3, s3 = wI s2 29 to (WS A 0 to k + nI (A.wire k to)) := ⟨_, rfl⟩
      have u1 : Un [27, 28, 29] s s1 := by rw [e1]; exact Un.wI _ _ _ _ (by simp)
      have u2 : Un [27, 28, 29] s s2 := u1.trs (by rw [e2]; exact Un.wI _ _ _ _ (by simp))
      have u3 : Un [27, 28, 29] s s3 := u2.trs (by rw [e3]; exact Un.wI _ _ _ _ (by simp))
      have hxs2 : HX s2 1 A := hxs.un u2 (fun k hk => by simp <;> omega)
      refine ⟨s3, ?_, p1.trs u3, ⟨?_, fun j hj hjh => ?_, ?_⟩, fun x hx' => ⟨?_, ?_⟩, fun y hy => ?_⟩
      · show X0_listen_L26 (nI to) (m + 1) (nI k) s = X0_listen_L26 (nI to) m (nI (k + 1)) s3
        refine (if_neg (xnle hxs hw hk)).trans ?_
        refine (bd ((sings_ok hxs hw hk).trans (congrArg some (if_pos h1)))).trans ?_
        rw [← nI_1]
        have e4 : (if (1 : Int32) = 0 then some s else (X6_between s (nI k) (nI to)).bind fun x14 => if x14 ≤ 0 then some s else (ldA s 28 (nI to)).bind fun x16 => (stA s 27 ((nI to * 8) + x16) (nI k)).bind fun S18 => (ldA S18 28 (nI to)).bind fun x20 => (stA S18 28 (nI to) (x20 + 1)).bind fun S22 => (ldA S22 29 (nI to)).bind fun x24 => (X6_between S22 (nI k) (nI to)).bind fun x27 => (stA S22 29 (nI to) (x24 + x27)).bind fun S28 => some S28) = some s3 := by
          refine (if_neg (by decide)).trans ?_
          refine (bd (betw hxs (by omega) (by omega))).trans ?_
          refine (if_neg (fun z => by have := (wire0 hw (by omega) (by omega)).2.mp z; omega)).trans ?_
          refine (bd ((ldA_s s 28 to rfl rfl (by show _ < 8; omega)).trans (congrArg some p2))).trans ?_
          refine (bd ((stA_s s 27 (8 * to + cb (hr A to) k) _ rfl (ix2 8 to _) (by show _ < 64; omega)).trans (congrArg some e1.symm))).trans ?_
          refine (bd ((ldA_s s1 28 to rfl rfl (by show _ < 8; omega)).trans (congrArg some (show rI s1 28 to = nI (cb (hr A to) k) by rw [e1, rI_wI_a (by decide), p2])))).trans ?_
          rw [nI_1]
          refine (bd ((stA_s s1 28 to _ rfl rfl (by show _ < 8; omega)).trans (congrArg some e2.symm))).trans ?_
          refine (bd ((ldA_s s2 29 to rfl rfl (by show _ < 8; omega)).trans (congrArg some (show rI s2 29 to = WS A 0 to k by rw [e2, rI_wI_a (by decide), e1, rI_wI_a (by decide), p4])))).trans ?_
          refine (bd (betw hxs2 (by omega) (by omega))).trans ?_
          exact bd ((stA_s s2 29 to _ rfl rfl (by show _ < 8; omega)).trans (congrArg some e3.symm))
        exact bd e4
      · rw [e3, rI_wI_a (by decide), e2, rI_wI_s, cb_y hh]
      · rw [e3, rI_wI_a (by decide), e2, rI_wI_a (by decide), e1, rI_wI]
        by_cases hjk : j = k
        · rw [hjk, if_pos ⟨rfl, rfl⟩]
        · have c1 : cb (hr A to) (j + 1) ≤ cb (hr A to) k := cb_mono _ (by omega)
          rw [cb_y hjh] at c1
          rw [if_neg (by omega)]
          exact p3 j (by omega) hjh
      · rw [e3, rI_wI_s]
        show _ = fo _ 0 (k + 1) 0
        rw [fo_succ, Nat.zero_add, if_pos hh]
        rfl
      · rw [e3, rI_wI_a (by decide), e2, rI_wI_k hx', e1, rI_wI_a (by decide)]
        exact (p5 x hx').1
      · rw [e3, rI_wI_k hx', e2, rI_wI_a (by decide), e1, rI_wI_a (by decide)]
        exact (p5 x hx').2
      · rw [e3, rI_wI_a (by decide), e2, rI_wI_a (by decide), e1, rI_wI_k (by omega)]
        exact p6 y hy
    · refine ⟨s, ?_, p1, ⟨by rw [cb_n hh]; exact p2, fun j hj hjh => p3 j (by
        have hjk : j ≠ k := fun z => hh (by rw [← z]; exact hjh)
        omega) hjh, ?_⟩, p5, p6⟩
      · show X0_listen_L26 (nI to) (m + 1) (nI k) s = X0_listen_L26 (nI to) m (nI (k + 1)) s
        refine (if_neg (xnle hxs hw hk)).trans ?_
        rw [← nI_1]
        by_cases h1 : A.val k 0 < 4
        · refine (bd ((sings_ok hxs hw hk).trans (congrArg some (if_pos h1)))).trans ?_
          have h2 : A.wire k to = 0 := by
            by_cases z : 0 < A.wire k to
            · exact absurd (hr_iff.mpr ⟨h1, z⟩) hh
            · omega
          rw [if_neg (by decide), betw hxs (by omega) (by omega)]
          exact bd (if_pos ((wire0 hw (by omega) (by omega)).2.mpr h2))
        · refine (bd ((sings_ok hxs hw hk).trans (congrArg some (if_neg h1)))).trans ?_
          exact bd (if_pos rfl)
      · rw [p4]
        show _ = fo _ 0 (k + 1) 0
        rw [fo_succ, Nat.zero_add, if_neg hh]
        rfl) A.n FU 0 S (by omega) (FU_lt (by omega)) ⟨Un.rf _ _, ⟨h28, fun j hj => absurd hj (Nat.not_lt_zero j), h29⟩, fun _ _ => ⟨rfl, rfl⟩, fun _ _ => rfl⟩
  exact ⟨T, hT, q⟩
theorem listen_ok (hx : HX S 1 A) (hw : Wf A) : ∃ T, X0_listen S = some T ∧ Un [27, 28, 29] S T ∧ ∀ r, r < A.n → Lr A 0 T r A.n := by
  have hn := hw.1
  obtain ⟨T, hT, q⟩ := forG (fun m k (s : St) => X0_listen_L2 m (nI k) s) A.n (fun k s => Un [27, 28, 29] S s ∧ ∀ r, r < k → Lr A 0 s r A.n) (fun s => Un [27, 28, 29] S s ∧ ∀ r, r < A.n → Lr A 0 s r A.n) (fun m s hp => ⟨s, if_pos (by rw [(hp.1 2 (by decide)).1]; exact xle hx hw), hp⟩) (fun m k s hk hp => by
    obtain ⟨p1, p2⟩ := hp
    right
    have u1 : Un [27, 28, 29] s (wI (wI s 28 k 0) 29 k 0) := (Un.wI _ _ _ _ (by simp)).trs (Un.wI _ _ _ _ (by simp))
    have hxs : HX s 1 A := hx.un p1 (fun k hk => by simp <;> omega)
    obtain ⟨T, a1, a2, a3, a4, a5⟩ := lis1 (S := wI (wI s 28 k 0) 29 k 0) (hxs.un u1 (fun k hk => by simp <;> omega)) hw hk (by rw [rI_wI_a (by decide), rI_wI_s]) (rI_wI_s _ _ _ _)
    refine ⟨T, ?_, p1.trs (u1.trs a2), fun r hr' => ?_⟩
    · show X0_listen_L2 (m + 1) (nI k) s = X0_listen_L2 m (nI (k + 1)) T
      refine (if_neg (xnle hxs hw hk)).trans ?_
      refine (bd (stA_s s 28 k _ rfl rfl (by show _ < 8; omega))).trans ?_
      refine (bd (stA_s _ 29 k _ rfl rfl (by show _ < 8; omega))).trans ?_
      refine (bd a1).trans ?_
      rw [nI_1]
    · by_cases hrk : r = k
      · rw [hrk]; exact a3
      · obtain ⟨g1, g2, g3⟩ := p2 r (by omega)
        refine ⟨?_, fun j hj hjh => ?_, ?_⟩
        · rw [(a4 r hrk).1, rI_wI_a (by decide), rI_wI_k hrk]; exact g1
        · have := cb_le (hr A r) j
          rw [a5 _ (by omega), rI_wI_a (by decide), rI_wI_a (by decide)]
          exact g2 j hj hjh
        · rw [(a4 r hrk).2, rI_wI_k hrk, rI_wI_a (by decide)]; exact g3) A.n FU 0 S (by omega) (FU_lt (by omega)) ⟨Un.rf _ _, fun r hr => absurd hr (Nat.not_lt_zero r)⟩
  refine ⟨T, ?_, q⟩
  unfold X0_listen
  exact bd hT
theorem mul_s (c s : Nat) : nI (c + 1) * nI s = nI c * nI s + nI s := by rw [pk_mul, pk_mul, nI_add, Nat.succ_mul]
theorem WS_same (A : Ch) {same : Nat} (h : same ≠ 0) (r : Nat) : ∀ k, WS A same r k = nI (cb (hr A r) k) * nI same
  | 0 => by
    show (0 : Int32) = nI 0 * nI same
    rw [pk_mul, Nat.zero_mul]
    rfl
  | k + 1 => by
    have ih := WS_same A h r k
    show fo _ 0 (k + 1) 0 = _
    rw [fo_succ, Nat.zero_add]
    by_cases hh : hr A r k = true
    · rw [if_pos hh, cb_y hh, mul_s, ← ih]
      show WS A same r k + tk A same k r = _
      rw [show tk A same k r = nI same from if_neg h]
    · rw [if_neg hh, cb_n hh, ← ih]
      rfl
theorem stretch_ok (hx : HX S 1 A) (hw : Wf A) {same s0 : Nat} (h : same ≠ 0) (hl : ∀ r, r < A.n → Lr A s0 S r A.n) : ∃ T, X0_stretchWires S (nI same) = some T ∧ Un [29] S T ∧ ∀ r, r < A.n → Lr A same T r A.n := by
  have hn := hw.1
  obtain ⟨T, hT, q1, q2⟩ := forG (fun m k (s : St) => X0_stretchWires_L2 (nI same) m (nI k) s) A.n (fun k s => Un [29] S s ∧ ∀ r, r < k → rI s 29 r = WS A same r A.n) (fun s => Un [29] S s ∧ ∀ r, r < A.n → rI s 29 r = WS A same r A.n) (fun m s hp => ⟨s, if_pos (by rw [(hp.1 2 (by decide)).1]; exact xle hx hw), hp⟩) (fun m k s hk hp => by
    obtain ⟨p1, p2⟩ := hp
    right
    refine ⟨wI s 29 k (WS A same k A.n), ?_, p1.trs (Un.wI _ _ _ _ (by simp)), fun r hr' => ?_⟩
    · show X0_stretchWires_L2 (nI same) (m + 1) (nI k) s = X0_stretchWires_L2 (nI same) m (nI (k + 1)) _
      refine (if_neg (by rw [(p1 2 (by decide)).1]; exact xnle hx hw hk)).trans ?_
      refine (bd ((ldA_s s 28 k rfl rfl (by show _ < 8; omega)).trans (congrArg some (((p1 28 (by decide)).1 k).trans (hl k hk).1)))).trans ?_
      rw [← WS_same A h k A.n]
      refine (bd (stA_s s 29 k _ rfl rfl (by show _ < 8; omega))).trans ?_
      rw [nI_1]
    · rw [rI_wI]
      by_cases hrk : r = k
      · rw [if_pos ⟨rfl, hrk⟩, hrk]
      · rw [if_neg (fun z => hrk z.2)]
        exact p2 r (by omega)) A.n FU 0 S (by omega) (FU_lt (by omega)) ⟨Un.rf _ _, fun r hr => absurd hr (Nat.not_lt_zero r)⟩
  refine ⟨T, ?_, q1, fun r hr' => ?_⟩
  · unfold X0_stretchWires
    exact bd hT
  · obtain ⟨g1, g2, g3⟩ := hl r hr'
    exact ⟨((q1 28 (by decide)).1 r).trans g1, fun j hj hjh => ((q1 27 (by decide)).1 _).trans (g2 j hj hjh), q2 r hr'⟩
theorem ms_ring (w c og tsum t k g o : Int32) : (w - c * (o + g) + tsum) + (((t + k) - g) - o) = (w + k) - (c + 1) * (o + g) + (tsum + t) ∧ og = og := by
  refine ⟨?_, rfl⟩
  grind
theorem MS_eq (A : Ch) (same : Nat) (t : Nat → Int32) (r : Nat) : ∀ k, MS A same t r k = WS A same r k - nI (cb (hr A r) k) * (t r + gs A r) + TS A t r k
  | 0 => by
    show (0 : Int32) = 0 - nI 0 * (t r + gs A r) + 0
    rw [show nI 0 = 0 from rfl]
    grind
  | k + 1 => by
    have ih := MS_eq A same t r k
    show fo _ 0 (k + 1) 0 = fo _ 0 (k + 1) 0 - _ + fo _ 0 (k + 1) 0
    rw [fo_succ, fo_succ, fo_succ, Nat.zero_add]
    by_cases hh : hr A r k = true
    · rw [if_pos hh, if_pos hh, if_pos hh, cb_y hh]
      have e : MS A same t r k + (((t k + tk A same k r) - gs A r) - t r) = (WS A same r k + tk A same k r) - (nI (cb (hr A r) k + 1)) * (t r + gs A r) + (TS A t r k + t k) := by
        rw [ih, ← nI_1]
        exact (ms_ring _ _ 0 _ _ _ _ _).1
      exact e
    · rw [if_neg hh, if_neg hh, if_neg hh, cb_n hh]
      exact ih
theorem meanLag_ok (hx : HX S 1 A) (hw : Wf A) {same r q : Nat} (hr1 : r < A.n) (hs : A.val r 0 < 4) (hq : q = 25 ∨ q = 26) (h1 : rR S 24 1 = q) (t : Nat → Int32) (ht : ∀ o, o < A.n → A.val o 0 < 4 → rI S q o = t o) (hl : Lr A same S r A.n) : X0_meanLag S (nI r) (gs A r) = some (lag A same t r) := by
  have hn := hw.1
  have hcb := cb_le (hr A r) A.n
  unfold X0_meanLag lag
  refine (bd ((ldA_s S 28 r rfl rfl (by show _ < 8; omega)).trans (congrArg some hl.1))).trans ?_
  by_cases h0 : cb (hr A r) A.n = 0
  · rw [if_pos h0]
    exact if_pos ((n0 (by omega)).1.mpr h0)
  · rw [if_neg h0]
    have hn0 : ¬ nI (cb (hr A r) A.n) = 0 := fun z => h0 ((n0 (by omega)).1.mp z)
    refine (if_neg hn0).trans ?_
    refine (bd ((ldA_s S 29 r rfl rfl (by show _ < 8; omega)).trans (congrArg some hl.2.2))).trans ?_
    rw [h1]
    refine (bd ((ldA_s S q r (w25 hq).1 rfl (by rw [(w25 hq).2]; omega)).trans (congrArg some (ht r hr1 hs)))).trans ?_
    obtain ⟨I, hI⟩ : ∃ I, I = WS A same r A.n - nI (cb (hr A r) A.n) * (t r + gs A r) := ⟨_, rfl⟩
    rw [← hI]
    have key : ∀ c m k, k + c = A.n → c < m → X0_meanLag_L35 S (nI r) (nI (cb (hr A r) A.n)) m (I + TS A t r k) (nI (cb (hr A r) k)) = some (I + TS A t r A.n) := by
      intro c
      induction c with
      | zero =>
        intro m k hk hm
        obtain ⟨m, rfl⟩ : ∃ n, m = n + 1 := ⟨m - 1, by omega⟩
        have hk : k = A.n := hk
        rw [hk]
        exact if_pos (nI_le (Nat.le_refl _) (by omega))
      | succ c ih =>
        intro m k hk hm
        have es : TS A t r (k + 1) = if hr A r k = true then TS A t r k + t k else TS A t r k := by
          show fo _ 0 (k + 1) 0 = _
          rw [fo_succ, Nat.zero_add]
          rfl
        by_cases hh : hr A r k = true
        · obtain ⟨m, rfl⟩ : ∃ n, m = n + 1 := ⟨m - 1, by omega⟩
          have hlt : cb (hr A r) (k + 1) ≤ cb (hr A r) A.n := cb_mono _ (by omega)
          have := ih m (k + 1) (by omega) (by omega)
          rw [cb_y hh, es, if_pos hh] at this
          rw [cb_y hh] at hlt
          refine Eq.trans ?_ this
          refine (if_neg (nI_ge (by omega) (by omega))).trans ?_
          refine (bd ((ldA_s S 27 (8 * r + cb (hr A r) k) rfl (ix2 8 r _) (by show _ < 64; omega)).trans (congrArg some (hl.2.1 k (by omega) hh)))).trans ?_
          rw [h1]
          refine (bd ((ldA_s S q k (w25 hq).1 rfl (by rw [(w25 hq).2]; omega)).trans (congrArg some (ht k (by omega) (hr_iff.mp hh).1)))).trans ?_
          rw [nI_1, Int32.add_assoc]
        · have := ih m (k + 1) (by omega) (by omega)
          rw [cb_n hh, es, if_neg hh] at this
          exact this
    have k0 := key A.n FU 0 (by omega) (FU_lt (by omega))
    have e0 : I + TS A t r 0 = I := Int32.add_zero I
    rw [e0] at k0
    refine (bd k0).trans ?_
    rw [MS_eq, ← hI]
    have ed : dvO (I + TS A t r A.n) (nI (cb (hr A r) A.n)) = some ((I + TS A t r A.n) / nI (cb (hr A r) A.n)) := by
      unfold dvO
      rw [if_neg hn0]
    exact bd ed
end LI
