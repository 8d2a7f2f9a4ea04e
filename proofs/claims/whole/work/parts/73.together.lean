/-! together -/
def mnw (p : Nat → Bool) (w : Nat → Nat) (i : Nat) : Nat → Nat
  | 0 => i
  | k + 1 => if p k = true then min (mnw p w i k) (w k) else mnw p w i k
theorem mnw_le (p : Nat → Bool) (w : Nat → Nat) (i : Nat) : ∀ k, mnw p w i k ≤ i
  | 0 => Nat.le_refl i
  | k + 1 => by
    have := mnw_le p w i k
    show (if p k = true then min (mnw p w i k) (w k) else mnw p w i k) ≤ i
    split <;> omega
theorem mnw_at (p : Nat → Bool) (w : Nat → Nat) (i : Nat) {r : Nat} (hr : p r = true) : ∀ k, r < k → mnw p w i k ≤ w r
  | 0, h => absurd h (Nat.not_lt_zero r)
  | k + 1, h => by
    show (if p k = true then min (mnw p w i k) (w k) else mnw p w i k) ≤ w r
    by_cases hk : r = k
    · subst hk
      rw [if_pos hr]
      omega
    · have := mnw_at p w i hr k (by omega)
      split <;> omega
theorem mnw_has (p : Nat → Bool) (w : Nat → Nat) (i : Nat) : ∀ k, mnw p w i k = i ∨ ∃ r, r < k ∧ p r = true ∧ mnw p w i k = w r
  | 0 => Or.inl rfl
  | k + 1 => by
    have ih := mnw_has p w i k
    show (if p k = true then min (mnw p w i k) (w k) else mnw p w i k) = i ∨ ∃ r, r < k + 1 ∧ p r = true ∧ (if p k = true then min (mnw p w i k) (w k) else mnw p w i k) = w r
    by_cases hp : p k = true
    · rw [if_pos hp]
      by_cases hc : mnw p w i k ≤ w k
      · rw [Nat.min_eq_left hc]
        rcases ih with h | ⟨r, h1, h2, h3⟩
        · exact Or.inl h
        · exact Or.inr ⟨r, by omega, h2, h3⟩
      · exact Or.inr ⟨k, by omega, hp, by omega⟩
    · rw [if_neg hp]
      rcases ih with h | ⟨r, h1, h2, h3⟩
      · exact Or.inl h
      · exact Or.inr ⟨r, by omega, h2, h3⟩
theorem mnw_two (p : Nat → Bool) (w : Nat → Nat) {r : Nat} (hr : p r = true) {n : Nat} (hrn : r < n) (hw : w r ≤ 400) : mnw p w 1000 n = mnw p w 400 n := by
  have a1 := mnw_at p w 1000 hr n hrn
  have a2 := mnw_at p w 400 hr n hrn
  rcases mnw_has p w 1000 n with h | ⟨x, h1, h2, h3⟩
  · omega
  · have b := mnw_at p w 400 h2 n h1
    rcases mnw_has p w 400 n with g | ⟨y, g1, g2, g3⟩
    · omega
    · have c := mnw_at p w 1000 g2 n g1
      omega
section TO
variable {S : St} {A : Ch}
abbrev wk (A : Ch) (k : Nat) : Nat → Nat := fun r => A.wire r k
def sh (A : Ch) (l k : Nat) : Nat := mnw l.testBit (wk A k) 400 A.n
def reach (A : Ch) (l k : Nat) : Bool := (List.range A.n).all (fun r => !l.testBit r || decide (¬ A.wire r k = 0))
def agree (A : Ch) (l k : Nat) (f : Nat → Nat) : Bool := (List.range A.n).all (fun r => !l.testBit r || decide (A.wire r k = sh A l k + f r))
theorem reach_iff {l k : Nat} : reach A l k = true ↔ ∀ r, r < A.n → l.testBit r = true → A.wire r k ≠ 0 := by
  unfold reach
  rw [List.all_eq_true]
  constructor
  · intro h r hr hl
    have := h r (List.mem_range.mpr hr)
    simp only [hl, Bool.not_true, Bool.false_or, decide_eq_true_eq] at this
    exact this
  · intro h r hr
    cases hl : l.testBit r
    · rfl
    · simp only [Bool.not_true, Bool.false_or, decide_eq_true_eq]
      exact h r (List.mem_range.mp hr) hl
theorem agree_iff {l k : Nat} {f : Nat → Nat} : agree A l k f = true ↔ ∀ r, r < A.n → l.testBit r = true → A.wire r k = sh A l k + f r := by
  unfold agree
  rw [List.all_eq_true]
  constructor
  · intro h r hr hl
    have := h r (List.mem_range.mpr hr)
    simp only [hl, Bool.not_true, Bool.false_or, decide_eq_true_eq] at this
    exact this
  · intro h r hr
    cases hl : l.testBit r
    · rfl
    · simp only [Bool.not_true, Bool.false_or, decide_eq_true_eq]
      exact h r (List.mem_range.mp hr) hl
/-- the first ear that fails, and the leads -/
def ff (A : Ch) (e l : Nat) : Nat → Nat → Option (Nat → Nat) → Option Nat × Option (Nat → Nat)
  | 0, _, ld => (none, ld)
  | c + 1, k, ld => if e.testBit k = true then
      (if A.val k 0 = 5 ∨ reach A l k = false then (some k, ld) else
        match ld with
        | none => ff A e l c (k + 1) (some (fun r => A.wire r k - sh A l k))
        | some f => if agree A l k f = true then ff A e l c (k + 1) (some f) else (some k, some f))
    else ff A e l c (k + 1) ld
def ffn (A : Ch) (e l c k : Nat) : Option (Nat → Nat) → Option Nat × Option (Nat → Nat)
  | none => ff A e l c (k + 1) (some (fun r => A.wire r k - sh A l k))
  | some f => if agree A l k f = true then ff A e l c (k + 1) (some f) else (some k, some f)
theorem ff_s (A : Ch) (e l c k : Nat) (ld : Option (Nat → Nat)) : ff A e l (c + 1) k ld = if e.testBit k = true then (if A.val k 0 = 5 ∨ reach A l k = false then (some k, ld) else ffn A e l c k ld) else ff A e l c (k + 1) ld := by cases ld <;> rfl
def good (A : Ch) (l : Nat) (f : Nat → Nat) : Prop := (∀ r, r < A.n → l.testBit r = true → f r ≤ 400) ∧ ∃ r, r < A.n ∧ l.testBit r = true ∧ f r = 0
def goodO (A : Ch) (l : Nat) (ld : Option (Nat → Nat)) : Prop := ∀ f, ld = some f → good A l f
def lnk (A : Ch) (l x : Nat) (T : St) (ld : Option (Nat → Nat)) : Prop := ∀ f, ld = some f → ∀ r, r < A.n → l.testBit r = true → rI T x r = nI (f r)
theorem good_new (hw : Wf A) {l k : Nat} (hk : k < 8) (hl : ∃ r, r < A.n ∧ l.testBit r = true) : good A l (fun r => A.wire r k - sh A l k) := by
  have hn := hw.1
  refine ⟨fun r hr _ => ?_, ?_⟩
  · have := hw.2.2.1 r k (by omega) hk
    show A.wire r k - sh A l k ≤ 400
    omega
  · obtain ⟨r0, h0, h1⟩ := hl
    rcases mnw_has l.testBit (wk A k) 400 A.n with h | ⟨x, g1, g2, g3⟩
    · refine ⟨r0, h0, h1, ?_⟩
      have := hw.2.2.1 r0 k (by omega) hk
      show A.wire r0 k - mnw l.testBit (wk A k) 400 A.n = 0
      omega
    · refine ⟨x, g1, g2, ?_⟩
      show A.wire x k - mnw l.testBit (wk A k) 400 A.n = 0
      rw [g3]
      exact Nat.sub_self _
theorem ff_none (e l : Nat) : ∀ c k, ff A e l c k none = (none, none) → ∀ j, k ≤ j → j < k + c → e.testBit j = false
  | 0, _, _ => fun j h1 h2 => by omega
  | c + 1, k, h => fun j h1 h2 => by
    have key : ∀ c k f, (ff A e l c k (some f)).2 ≠ none := by
      intro c
      induction c with
      | zero => intro k f z; cases z
      | succ c ih =>
        intro k f
        show (if e.testBit k = true then (if A.val k 0 = 5 ∨ reach A l k = false then (some k, some f) else if agree A l k f = true then ff A e l c (k + 1) (some f) else (some k, some f)) else ff A e l c (k + 1) (some f)).2 ≠ none
        split
        · split
          · intro z; cases z
          · split
            · exact ih _ _
            · intro z; cases z
        · exact ih _ _
    have h : (if e.testBit k = true then (if A.val k 0 = 5 ∨ reach A l k = false then (some k, none) else ff A e l c (k + 1) (some (fun r => A.wire r k - sh A l k))) else ff A e l c (k + 1) none) = (none, none) := h
    by_cases hb : e.testBit k = true
    · rw [if_pos hb] at h
      split at h
      · cases h
      · exact absurd (congrArg Prod.snd h) (key _ _ _)
    · rw [if_neg hb] at h
      by_cases hj : j = k
      · rw [hj]; simpa using hb
      · exact ff_none e l c (k + 1) h j (by omega) (by omega)
theorem shortN (hx : HX S 1 A) (hw : Wf A) {l k : Nat} (hl : l < 256) (hk : k < 8) : X6_shortestWire S (nI k) (nI l) = some (nI (sh A l k)) := by
  have hn := hw.1
  rw [shortest hx hw hl hk]
  congr 1
  have := fo_inv (f := fun o (v : Int32) => if l.testBit o = true then (if nI (A.wire o k) < v then nI (A.wire o k) else v) else v) (fun j v => v = nI (mnw l.testBit (wk A k) 400 j)) A.n 0 400 rfl (fun j s _ hj hs => by
    rw [hs, show mnw l.testBit (wk A k) 400 (j + 1) = if l.testBit j = true then min (mnw l.testBit (wk A k) 400 j) (A.wire j k) else mnw l.testBit (wk A k) 400 j from rfl]
    have h4 := mnw_le l.testBit (wk A k) 400 j
    have hwj := hw.2.2.1 j k (by omega) hk
    by_cases hb : l.testBit j = true
    · rw [if_pos hb, if_pos hb]
      by_cases hc : A.wire j k < mnw l.testBit (wk A k) 400 j
      · rw [if_pos (nI_lt hc (by omega)), Nat.min_eq_right (by omega)]
      · rw [if_neg (fun z => hc ((nI_ltI (by omega) (by omega)).mp z)), Nat.min_eq_left (by omega)]
    · rw [if_neg hb, if_neg hb])
  rw [Nat.zero_add] at this
  exact this
theorem lead_ok (hx : HX S 1 A) (hw : Wf A) {l k : Nat} (hl : l < 256) (hk : k < 8) : ∃ T, X2_lead S (nI k) (nI l) = some T ∧ Un [31] S T ∧ lnk A l 31 T (some (fun r => A.wire r k - sh A l k)) := by
  have hn := hw.1
  obtain ⟨T, hT, q1, q2⟩ := forG (fun m j (s : St) => X2_lead_L11 (nI k) (nI (sh A l k)) m (nI j) s) A.n (fun j s => Un [31] S s ∧ ∀ r, r < j → rI s 31 r = nI (A.wire r k) - nI (sh A l k)) (fun s => Un [31] S s ∧ ∀ r, r < A.n → rI s 31 r = nI (A.wire r k) - nI (sh A l k)) (fun m s hp => ⟨s, if_pos (by rw [(hp.1 2 (by decide)).1]; exact xle hx hw), hp⟩) (fun m j s hj hp => by
    obtain ⟨p1, p2⟩ := hp
    have hxs := hx.un p1 (fun k hk => by simp <;> omega)
    right
    refine ⟨wI s 31 j (nI (A.wire j k) - nI (sh A l k)), ?_, p1.trs (Un.wI _ _ _ _ (by simp)), fun r hr => ?_⟩
    · show X2_lead_L11 (nI k) (nI (sh A l k)) (m + 1) (nI j) s = X2_lead_L11 (nI k) (nI (sh A l k)) m (nI (j + 1)) _
      refine (if_neg (xnle hxs hw hj)).trans ?_
      refine (bd (betw hxs (by omega) hk)).trans ?_
      refine (bd (stA_s s 31 j _ rfl rfl (by show _ < 8; omega))).trans ?_
      rw [nI_1]
    · rw [rI_wI]
      by_cases hrj : r = j
      · rw [if_pos ⟨rfl, hrj⟩, hrj]
      · rw [if_neg (fun z => hrj z.2)]
        exact p2 r (by omega)) A.n FU 0 S (by omega) (FU_lt (by omega)) ⟨Un.rf _ _, fun r hr => absurd hr (Nat.not_lt_zero r)⟩
  refine ⟨T, ?_, q1, fun f hf r hr hb => ?_⟩
  · unfold X2_lead
    refine (bd (shortN hx hw hl hk)).trans ?_
    exact bd hT
  · cases hf
    rw [q2 r hr]
    exact pk_sub (mnw_at l.testBit (wk A k) 400 hb A.n hr)
theorem agrees_ok (hx : HX S 1 A) (hw : Wf A) {l k : Nat} (hl : l < 256) (hk : k < 8) {f : Nat → Nat} (hg : good A l f) (hf : lnk A l 31 S (some f)) : X2_agrees S (nI k) (nI l) = some (if agree A l k f = true then 1 else 0) := by
  have hn := hw.1
  obtain ⟨t, ht, e⟩ := forG (fun n j (_ : Unit) => X2_agrees_L11 S (nI k) (nI l) (nI (sh A l k)) n (nI j)) A.n (fun j _ => ∀ r, r < j → l.testBit r = true → A.wire r k = sh A l k + f r) (fun t => (t = .inl () ∧ agree A l k f = true) ∨ (t = .inr 0 ∧ agree A l k f = false)) (fun n s hp => ⟨.inl (), if_pos (xle hx hw), Or.inl ⟨rfl, agree_iff.mpr hp⟩⟩) (fun n j s hj hp => by
    have b := bit8 hl (t := j) (by omega)
    by_cases hb : l.testBit j = true
    · have hs : sh A l k ≤ A.wire j k := mnw_at l.testBit (wk A k) 400 hb A.n hj
      have hwj := hw.2.2.1 j k (by omega) hk
      have hfj := hg.1 j hj hb
      have e1 : X2_agrees_L11 S (nI k) (nI l) (nI (sh A l k)) (n + 1) (nI j) = if nI (f j) = nI (A.wire j k) - nI (sh A l k) then X2_agrees_L11 S (nI k) (nI l) (nI (sh A l k)) n (nI (j + 1)) else some (.inr 0) := by
        refine (if_neg (xnle hx hw hj)).trans ?_
        refine (if_neg (fun z => by rw [b.1.mp z] at hb; cases hb)).trans ?_
        refine (bd ((ldA_s S 31 j rfl rfl (by show _ < 8; omega)).trans (congrArg some (hf f rfl j hj hb)))).trans ?_
        refine (bd (betw hx (by omega) hk)).trans ?_
        rw [nI_1]
      rw [pk_sub hs] at e1
      by_cases hc : A.wire j k = sh A l k + f j
      · right
        refine ⟨(), e1.trans (if_pos (by congr 1; omega)), fun r hr h1 => ?_⟩
        by_cases hrj : r = j
        · rw [hrj]; exact hc
        · exact hp r (by omega) h1
      · left
        refine ⟨.inr 0, e1.trans (if_neg (fun z => hc (by have := (nI_eq (by omega) (by omega)).mp z; omega))), Or.inr ⟨rfl, ?_⟩⟩
        cases ha : agree A l k f
        · rfl
        · exact absurd (agree_iff.mp ha j hj hb) hc
    · right
      refine ⟨(), ?_, fun r hr h1 => ?_⟩
      · show X2_agrees_L11 S (nI k) (nI l) (nI (sh A l k)) (n + 1) (nI j) = X2_agrees_L11 S (nI k) (nI l) (nI (sh A l k)) n (nI (j + 1))
        refine (if_neg (xnle hx hw hj)).trans ?_
        rw [← nI_1]
        exact if_pos (b.1.mpr (by simpa using hb))
      · by_cases hrj : r = j
        · rw [hrj] at h1; exact absurd h1 hb
        · exact hp r (by omega) h1) A.n FU 0 () (by omega) (FU_lt (by omega)) (fun r hr => absurd hr (Nat.not_lt_zero r))
  unfold X2_agrees
  refine (bd (shortN hx hw hl hk)).trans ?_
  have ht : X2_agrees_L11 S (nI k) (nI l) (nI (sh A l k)) FU 0 = some t := ht
  rcases e with ⟨rfl, e⟩ | ⟨rfl, e⟩
  · rw [e]
    exact bd ht
  · rw [e]
    exact bd ht
def outX (r : Option Nat) (T : St) : St ⊕ (Int32 × St) := match r with
  | none => .inl T
  | some j => .inr (nI j, T)
theorem cff (hw : Wf A) {e l : Nat} (he : e < 256) (hl : l < 256) (h0 : l ≠ 0) (hm : ∃ r, r < A.n ∧ l.testBit r = true) : ∀ c m k T ld, k + c = A.n → c < m → HX T 1 A → goodO A l ld → lnk A l 31 T ld → ∃ T', X2_firstFailing_L15 (nI e) (nI l) m (if ld.isSome = true then 1 else 0) (nI k) T = some (outX (ff A e l c k ld).1 T') ∧ Un [31] T T' ∧ lnk A l 31 T' (ff A e l c k ld).2 := by
  have hn := hw.1
  have hl0 : ¬ nI l = 0 := fun z => h0 ((nI_eq (a := l) (b := 0) (by omega) (by omega)).mp z)
  intro c
  induction c with
  | zero =>
    intro m k T ld hk hm1 hx hg hf
    obtain ⟨m, rfl⟩ : ∃ n, m = n + 1 := ⟨m - 1, by omega⟩
    have hk : k = A.n := hk
    subst hk
    exact ⟨T, if_pos (xle hx hw), Un.rf _ _, hf⟩
  | succ c ih =>
    intro m k T ld hk hm1 hx hg hf
    obtain ⟨m, rfl⟩ : ∃ n, m = n + 1 := ⟨m - 1, by omega⟩
    have hkn : k < A.n := by omega
    have b := bit8 he (t := k) (by omega)
    have e0 : X2_firstFailing_L15 (nI e) (nI l) (m + 1) (if ld.isSome = true then 1 else 0) (nI k) T = if ((nI e >>> (nI k &&& 31)) &&& 1) = 0 then X2_firstFailing_L15 (nI e) (nI l) m (if ld.isSome = true then 1 else 0) (nI (k + 1)) T else (if A.val k 0 = 5 then some (.inr (nI k, T)) else (X6_reachedByAll T (nI k) (nI l)).bind fun x10 => if x10 = 0 then some (.inr (nI k, T)) else if (if ld.isSome = true then (1 : Int32) else 0) = 0 then (X2_lead T (nI k) (nI l)).bind fun S17 => X2_firstFailing_L15 (nI e) (nI l) m 1 (nI (k + 1)) S17 else (X2_agrees T (nI k) (nI l)).bind fun x14 => if x14 = 0 then some (.inr (nI k, T)) else X2_firstFailing_L15 (nI e) (nI l) m (if ld.isSome = true then 1 else 0) (nI (k + 1)) T) := by
      refine (if_neg (xnle hx hw hkn)).trans ?_
      refine (if_neg hl0).trans ?_
      rw [nI_1, isCut_ok hx hw hkn]
      by_cases hc : A.val k 0 = 5
      · rw [if_pos hc, if_pos hc]
        rfl
      · rw [if_neg hc, if_neg hc]
        rfl
    rw [e0]
    rw [ff_s]
    by_cases hb : e.testBit k = true
    · rw [if_neg (fun z => by rw [b.1.mp z] at hb; cases hb), if_pos hb]
      by_cases hc : A.val k 0 = 5
      · rw [if_pos hc, if_pos (Or.inl hc)]
        exact ⟨T, rfl, Un.rf _ _, hf⟩
      · rw [if_neg hc]
        rcases reached hx hw hl (r := k) (by omega) with ⟨y1, y2⟩ | ⟨y1, o, y2, y3, y4⟩
        · have hre : reach A l k = true := reach_iff.mpr y2
          rw [y1, if_neg (show ¬ (A.val k 0 = 5 ∨ reach A l k = false) by rw [hre]; simp [hc])]
          cases ld with
          | none =>
            obtain ⟨T1, a1, a2, a3⟩ := lead_ok hx hw hl (k := k) (by omega)
            obtain ⟨T', b1, b2, b3⟩ := ih m (k + 1) T1 (some (fun r => A.wire r k - sh A l k)) (by omega) (by omega) (hx.un a2 (fun k hk => by simp <;> omega)) (fun f hf => by cases hf; exact good_new hw (by omega) hm) a3
            refine ⟨T', ?_, a2.trs b2, b3⟩
            refine Eq.trans ?_ b1
            show (X2_lead T (nI k) (nI l)).bind _ = _
            rw [a1]
            rfl
          | some f =>
            have ag := agrees_ok hx hw hl (k := k) (by omega) (hg f rfl) hf
            show ∃ T', (X2_agrees T (nI k) (nI l)).bind (fun x14 => if x14 = 0 then some (.inr (nI k, T)) else X2_firstFailing_L15 (nI e) (nI l) m 1 (nI (k + 1)) T) = some (outX (if agree A l k f = true then ff A e l c (k + 1) (some f) else (some k, some f)).1 T') ∧ Un [31] T T' ∧ lnk A l 31 T' (if agree A l k f = true then ff A e l c (k + 1) (some f) else (some k, some f)).2
            rw [ag]
            by_cases ha : agree A l k f = true
            · rw [if_pos ha, if_pos ha]
              exact ih m (k + 1) T (some f) (by omega) (by omega) hx hg hf
            · rw [if_neg ha, if_neg ha]
              exact ⟨T, rfl, Un.rf _ _, hf⟩
        · have hre : reach A l k = false := by
            cases h : reach A l k
            · rfl
            · exact absurd y4 (reach_iff.mp h o y2 y3)
          rw [y1, if_pos (show A.val k 0 = 5 ∨ reach A l k = false from Or.inr hre)]
          exact ⟨T, rfl, Un.rf _ _, hf⟩
    · rw [if_pos (b.1.mpr (by simpa using hb)), if_neg hb]
      exact ih m (k + 1) T ld (by omega) (by omega) hx hg hf
end TO
