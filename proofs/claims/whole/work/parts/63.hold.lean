/-! wires to a room from rooms of a mask; hold -/
section HO
variable {S : St} {A : Ch}
theorem betw (hx : HX S 1 A) {f t : Nat} (hf : f < 8) (ht : t < 8) : X6_between S (nI f) (nI t) = some (nI (A.wire f t)) := (between_ok hf ht).trans (congrArg some (hx.2.2.1 f t hf ht))
theorem wiro (hm : HM S 61 0 62 0 A) {f t : Nat} (hf : f < 8) (ht : t < 8) : X11_wireOf S (nI f) (nI t) = some (nI (A.wire f t)) := by
  have h := hm.2.2.2.1 f t hf ht
  rw [show 0 + 64 + 8 * f + t = 64 + 8 * f + t by omega] at h
  exact (wireOf_ok hf ht).trans (congrArg some h)
theorem wire0 (hw : Wf A) {f t : Nat} (hf : f < 8) (ht : t < 8) : (nI (A.wire f t) = 0 ↔ A.wire f t = 0) ∧ (nI (A.wire f t) ≤ 0 ↔ A.wire f t = 0) := by
  have h := hw.2.2.1 f t hf ht
  refine ⟨nI_eq (a := A.wire f t) (b := 0) (by omega) (by omega), ?_⟩
  rw [show (0 : Int32) = nI 0 from rfl, nI_leI (by omega) (by omega)]
  omega
theorem reached (hx : HX S 1 A) (hw : Wf A) {l r : Nat} (hl : l < 256) (hr : r < 8) : (X6_reachedByAll S (nI r) (nI l) = some 1 ∧ ∀ o, o < A.n → l.testBit o = true → A.wire o r ≠ 0) ∨ (X6_reachedByAll S (nI r) (nI l) = some 0 ∧ ∃ o, o < A.n ∧ l.testBit o = true ∧ A.wire o r = 0) := by
  have hn := hw.1
  obtain ⟨t, h, e⟩ := forG (fun n k (_ : Unit) => X6_reachedByAll_L2 S (nI r) (nI l) n (nI k)) A.n (fun k _ => ∀ o, o < k → l.testBit o = true → A.wire o r ≠ 0) (fun t => (t = .inl () ∧ ∀ o, o < A.n → l.testBit o = true → A.wire o r ≠ 0) ∨ (t = .inr 0 ∧ ∃ o, o < A.n ∧ l.testBit o = true ∧ A.wire o r = 0)) (fun n s hp => ⟨.inl (), if_pos (xle hx hw), Or.inl ⟨rfl, hp⟩⟩) (fun n k s hk hp => by
    have b := bit8 hl (t := k) (by omega)
    by_cases hb : l.testBit k = true
    · by_cases h0 : A.wire k r = 0
      · left
        refine ⟨.inr 0, ?_, Or.inr ⟨rfl, k, hk, hb, h0⟩⟩
        refine (if_neg (xnle hx hw hk)).trans ?_
        refine (if_neg (fun z => by rw [b.1.mp z] at hb; cases hb)).trans ?_
        refine (bd (betw hx (by omega) hr)).trans ?_
        exact if_pos ((wire0 hw (by omega) hr).1.mpr h0)
      · right
        refine ⟨(), ?_, fun o ho h1 => ?_⟩
        · show X6_reachedByAll_L2 S (nI r) (nI l) (n + 1) (nI k) = X6_reachedByAll_L2 S (nI r) (nI l) n (nI (k + 1))
          refine (if_neg (xnle hx hw hk)).trans ?_
          refine (if_neg (fun z => by rw [b.1.mp z] at hb; cases hb)).trans ?_
          refine (bd (betw hx (by omega) hr)).trans ?_
          rw [← nI_1]
          exact if_neg (fun z => h0 ((wire0 hw (by omega) hr).1.mp z))
        · by_cases ho2 : o = k
          · rw [ho2]; exact h0
          · exact hp o (by omega) h1
    · right
      refine ⟨(), ?_, fun o ho h1 => ?_⟩
      · show X6_reachedByAll_L2 S (nI r) (nI l) (n + 1) (nI k) = X6_reachedByAll_L2 S (nI r) (nI l) n (nI (k + 1))
        refine (if_neg (xnle hx hw hk)).trans ?_
        rw [← nI_1]
        exact if_pos (b.1.mpr (by simpa using hb))
      · by_cases ho2 : o = k
        · rw [ho2] at h1; exact absurd h1 hb
        · exact hp o (by omega) h1) A.n FU 0 () (by omega) (FU_lt (by omega)) (fun o ho => absurd ho (Nat.not_lt_zero o))
  have h : X6_reachedByAll_L2 S (nI r) (nI l) FU 0 = some t := h
  rcases e with ⟨rfl, e⟩ | ⟨rfl, e⟩
  · left
    refine ⟨?_, e⟩
    unfold X6_reachedByAll
    exact bd h
  · right
    refine ⟨?_, e⟩
    unfold X6_reachedByAll
    exact bd h
theorem longest (hx : HX S 1 A) (hw : Wf A) {l r : Nat} (hl : l < 256) (hr : r < 8) : X6_longestWire S (nI r) (nI l) = some (fo (fun o (v : Int32) => if l.testBit o = true then (if v < nI (A.wire o r) then nI (A.wire o r) else v) else v) 0 A.n 0) := by
  have hn := hw.1
  have h := foldG (fun n k (s : Int32) => X6_longestWire_L5 S (nI r) (nI l) n s (nI k)) id A.n (fun o (v : Int32) => if l.testBit o = true then (if v < nI (A.wire o r) then nI (A.wire o r) else v) else v) (fun n s => if_pos (xle hx hw)) (fun n k s hk => by
    have b := bit8 hl (t := k) (by omega)
    show X6_longestWire_L5 S (nI r) (nI l) (n + 1) s (nI k) = X6_longestWire_L5 S (nI r) (nI l) n (if l.testBit k = true then (if s < nI (A.wire k r) then nI (A.wire k r) else s) else s) (nI (k + 1))
    refine (if_neg (xnle hx hw hk)).trans ?_
    rw [← nI_1]
    by_cases hb : l.testBit k = true
    · rw [if_pos hb]
      have e : X6_between S (nI k) (nI r) = some (nI (A.wire k r)) := betw hx (by omega) hr
      rw [if_neg (fun z => by rw [b.1.mp z] at hb; cases hb), e]
      rfl
    · rw [if_neg hb, if_pos (b.1.mpr (by simpa using hb))]
      rfl) A.n FU 0 0 (by omega) (FU_lt (by omega))
  unfold X6_longestWire
  exact bd h
theorem shortest (hx : HX S 1 A) (hw : Wf A) {l r : Nat} (hl : l < 256) (hr : r < 8) : X6_shortestWire S (nI r) (nI l) = some (fo (fun o (v : Int32) => if l.testBit o = true then (if nI (A.wire o r) < v then nI (A.wire o r) else v) else v) 0 A.n 400) := by
  have hn := hw.1
  have h := foldG (fun n k (s : Int32) => X6_shortestWire_L7 S (nI r) (nI l) n s (nI k)) id A.n (fun o (v : Int32) => if l.testBit o = true then (if nI (A.wire o r) < v then nI (A.wire o r) else v) else v) (fun n s => if_pos (xle hx hw)) (fun n k s hk => by
    have b := bit8 hl (t := k) (by omega)
    show X6_shortestWire_L7 S (nI r) (nI l) (n + 1) s (nI k) = X6_shortestWire_L7 S (nI r) (nI l) n (if l.testBit k = true then (if nI (A.wire k r) < s then nI (A.wire k r) else s) else s) (nI (k + 1))
    refine (if_neg (xnle hx hw hk)).trans ?_
    rw [← nI_1]
    by_cases hb : l.testBit k = true
    · rw [if_pos hb]
      have e : X6_between S (nI k) (nI r) = some (nI (A.wire k r)) := betw hx (by omega) hr
      rw [if_neg (fun z => by rw [b.1.mp z] at hb; cases hb), e]
      rfl
    · rw [if_neg hb, if_pos (b.1.mpr (by simpa using hb))]
      rfl) A.n FU 0 400 (by omega) (FU_lt (by omega))
  unfold X6_shortestWire
  exact bd h
theorem costs (hx : HX S 1 A) (hw : Wf A) {l r : Nat} (hl : l < 256) (hr : r < 8) (g : Int32) : X6_costOfHolding S (nI r) (nI l) g = some (fo (fun o (v : Int32) => if l.testBit o = true then v + (g - nI (A.wire o r)) else v) 0 A.n 0) := by
  have hn := hw.1
  have h := foldG (fun n k (s : Int32) => X6_costOfHolding_L6 S (nI r) (nI l) g n s (nI k)) id A.n (fun o (v : Int32) => if l.testBit o = true then v + (g - nI (A.wire o r)) else v) (fun n s => if_pos (xle hx hw)) (fun n k s hk => by
    have b := bit8 hl (t := k) (by omega)
    show X6_costOfHolding_L6 S (nI r) (nI l) g (n + 1) s (nI k) = X6_costOfHolding_L6 S (nI r) (nI l) g n (if l.testBit k = true then s + (g - nI (A.wire k r)) else s) (nI (k + 1))
    refine (if_neg (xnle hx hw hk)).trans ?_
    rw [← nI_1]
    by_cases hb : l.testBit k = true
    · rw [if_pos hb]
      have e : X6_between S (nI k) (nI r) = some (nI (A.wire k r)) := betw hx (by omega) hr
      rw [if_neg (fun z => by rw [b.1.mp z] at hb; cases hb), e]
      rfl
    · rw [if_neg hb, if_pos (b.1.mpr (by simpa using hb))]
      rfl) A.n FU 0 0 (by omega) (FU_lt (by omega))
  unfold X6_costOfHolding
  exact bd h
theorem i_flip (a b : Int32) : (if a ≤ b then b else a) = (if b < a then a else b) := by
  by_cases h : a ≤ b
  · rw [if_pos h, if_neg (fun z => by rw [Int32.lt_iff_toInt_lt] at z; rw [Int32.le_iff_toInt_le] at h; omega)]
  · rw [if_neg h, if_pos (by rw [Int32.le_iff_toInt_le] at h; rw [Int32.lt_iff_toInt_lt]; omega)]
/-- the others that sing -/
abbrev oth (A : Ch) (r : Nat) : Nat := clrN (mask (sg A) A.n) r
theorem oth_tb (hw : Wf A) {r k : Nat} (hr : r < A.n) (hk : k < A.n) : (oth A r).testBit k = true ↔ k ≠ r ∧ A.val k 0 < 4 := by
  have hn := hw.1
  rw [(tb8 (mask8 _ hn) (by omega) (by omega)).2, mask_tb]
  by_cases h : k = r
  · simp [h]
  · simp [h, hk]
theorem ho_ring (c h s w : Int32) : c * h - s + (h - w) = (c + 1) * h - (s + w) := by grind
theorem mhold (hm : HM S 61 0 62 0 A) (hw : Wf A) {r : Nat} (hr : r < A.n) (v2 : Int32) : ∃ t, X11_hold_L42 S (nI r) v2 FU 0 0 0 0 = some t ∧ ((t = .inl (fo (fun o (v : Int32) => if (oth A r).testBit o = true then (if v < nI (A.wire o r) then nI (A.wire o r) else v) else v) 0 A.n 0, fo (fun o (v : Int32) => if (oth A r).testBit o = true then v + nI (A.wire o r) else v) 0 A.n 0, fo (fun o (v : Int32) => if (oth A r).testBit o = true then v + 1 else v) 0 A.n 0) ∧ ∀ o, o < A.n → (oth A r).testBit o = true → A.wire o r ≠ 0) ∨ (t = .inr (-4) ∧ ∃ o, o < A.n ∧ (oth A r).testBit o = true ∧ A.wire o r = 0)) := by
  have hn := hw.1
  exact forG (fun n k (s : Int32 × Int32 × Int32) => X11_hold_L42 S (nI r) v2 n s.1 s.2.1 s.2.2 (nI k)) A.n (fun k s => s = (fo (fun o (v : Int32) => if (oth A r).testBit o = true then (if v < nI (A.wire o r) then nI (A.wire o r) else v) else v) 0 k 0, fo (fun o (v : Int32) => if (oth A r).testBit o = true then v + nI (A.wire o r) else v) 0 k 0, fo (fun o (v : Int32) => if (oth A r).testBit o = true then v + 1 else v) 0 k 0) ∧ ∀ o, o < k → (oth A r).testBit o = true → A.wire o r ≠ 0) _ (fun n s hp => ⟨.inl (s.1, s.2.1, s.2.2), (bd (rooms_ok hm)).trans (if_pos (mle hw)), Or.inl ⟨by rw [hp.1], hp.2⟩⟩) (fun n k s hk hp => by
    obtain ⟨p1, p2⟩ := hp
    have ho := oth_tb hw hr hk
    by_cases hb : (oth A r).testBit k = true
    · have hb2 := ho.mp hb
      by_cases h0 : A.wire k r = 0
      · left
        refine ⟨.inr (-4), ?_, Or.inr ⟨rfl, k, hk, hb, h0⟩⟩
        refine (bd (rooms_ok hm)).trans ?_
        refine (if_neg (mnle hw hk)).trans ?_
        refine (if_neg (fun z => hb2.1 ((nI_eq (by omega) (by omega)).mp z))).trans ?_
        refine (bd ((msings_ok hm hw hk).trans (congrArg some (if_pos hb2.2)))).trans ?_
        refine (bd (wiro hm (by omega) (by omega))).trans ?_
        exact if_pos ((wire0 hw (by omega) (by omega)).1.mpr h0)
      · right
        refine ⟨(if s.1 < nI (A.wire k r) then nI (A.wire k r) else s.1, s.2.1 + nI (A.wire k r), s.2.2 + 1), ?_, ?_, fun o ho h1 => ?_⟩
        · show X11_hold_L42 S (nI r) v2 (n + 1) s.1 s.2.1 s.2.2 (nI k) = X11_hold_L42 S (nI r) v2 n (if s.1 < nI (A.wire k r) then nI (A.wire k r) else s.1) (s.2.1 + nI (A.wire k r)) (s.2.2 + 1) (nI (k + 1))
          refine (bd (rooms_ok hm)).trans ?_
          refine (if_neg (mnle hw hk)).trans ?_
          refine (if_neg (fun z => hb2.1 ((nI_eq (by omega) (by omega)).mp z))).trans ?_
          refine (bd ((msings_ok hm hw hk).trans (congrArg some (if_pos hb2.2)))).trans ?_
          refine (bd (wiro hm (by omega) (by omega))).trans ?_
          refine (if_neg (fun z => h0 ((wire0 hw (by omega) (by omega)).1.mp z))).trans ?_
          rw [some_if, i_flip, ← nI_1]
          rfl
        · rw [fo_succ, fo_succ, fo_succ, p1, Nat.zero_add, if_pos hb, if_pos hb, if_pos hb]
        · by_cases ho2 : o = k
          · rw [ho2]; exact h0
          · exact p2 o (by omega) h1
    · right
      refine ⟨s, ?_, ?_, fun o ho h1 => ?_⟩
      · show X11_hold_L42 S (nI r) v2 (n + 1) s.1 s.2.1 s.2.2 (nI k) = X11_hold_L42 S (nI r) v2 n s.1 s.2.1 s.2.2 (nI (k + 1))
        refine (bd (rooms_ok hm)).trans ?_
        refine (if_neg (mnle hw hk)).trans ?_
        rw [← nI_1]
        by_cases hkr : k = r
        · exact if_pos (by rw [hkr])
        · refine (if_neg (fun z => hkr ((nI_eq (by omega) (by omega)).mp z))).trans ?_
          refine (bd ((msings_ok hm hw hk).trans (congrArg some (if_neg (fun z => hb (ho.mpr ⟨hkr, z⟩)))))).trans ?_
          exact if_pos rfl
      · rw [fo_succ, fo_succ, fo_succ, p1, Nat.zero_add, if_neg hb, if_neg hb, if_neg hb]
      · by_cases ho2 : o = k
        · rw [ho2] at h1; exact absurd h1 hb
        · exact p2 o (by omega) h1) A.n FU 0 (0, 0, 0) (by omega) (FU_lt (by omega)) ⟨rfl, fun o ho => absurd ho (Nat.not_lt_zero o)⟩
theorem st_hold : ∀ (S : St) (a0 : Int32) (a1 : Int32), Inv S → ∃ (r : Int32), X10_hold S a0 a1 = some r ∧ X11_hold S a0 a1 = some r ∧ Inv S := by
  intro S a b hI
  obtain ⟨⟨A, hw, hx, hm⟩, -⟩ := id hI
  have hn := hw.1
  by_cases h1 : 0 ≤ a.toInt ∧ a.toInt < A.n
  · by_cases h2 : 0 ≤ b.toInt ∧ b.toInt ≤ 1
    · obtain ⟨r, hr, rfl⟩ := i_nat h1.1 h1.2
      have hl : oth A r < 256 := (bits8 (mask8 (sg A) hn) (t := r) (by omega)).2.2.2.2
      have el := (bits8 (mask8 (sg A) hn) (t := r) (by omega)).2.1
      by_cases h3 : A.val r 0 = 5
      · refine ⟨-4, ?_, ?_, hI⟩
        · unfold X10_hold
          rw [hasG hx hn, if_pos h1, gd b 0 1 0 1, if_pos h2, singers_ok hx hw]
          refine (bd ((isCut_ok hx hw hr).trans (congrArg some (if_pos h3)))).trans ?_
          exact if_neg (by decide)
        · unfold X11_hold
          rw [roomG hm hn, if_pos h1, md S b 0 1 0 1, if_pos h2]
          refine (bd ((misCut_ok hm hw hr).trans (congrArg some (if_pos h3)))).trans ?_
          exact if_neg (by decide)
      · have eX : X10_hold S (nI r) b = (X6_reachedByAll S (nI r) (nI (oth A r))).bind fun x12 => if x12 = 0 then some (-4) else (X6_longestWire S (nI r) (nI (oth A r))).bind fun x15 => if b = 0 then some x15 else (X6_costOfHolding S (nI r) (nI (oth A r)) x15).bind fun x18 => some x18 := by
          unfold X10_hold
          rw [hasG hx hn, if_pos h1, gd b 0 1 0 1, if_pos h2, singers_ok hx hw]
          refine (bd ((isCut_ok hx hw hr).trans (congrArg some (if_neg h3)))).trans ?_
          refine (if_pos rfl).trans ?_
          show (X6_reachedByAll S (nI r) (nI (mask (sg A) A.n) &&& ((1 <<< (nI r &&& 31)) ^^^ (-1)))).bind _ = _
          rw [el]
        have eM : X11_hold S (nI r) b = (X11_hold_L42 S (nI r) b FU 0 0 0 0).bind fun t => match t with
            | .inr x30 => some x30
            | .inl (x24, x25, x26) => if b = 0 then some x24 else some ((x26 * x24) - x25) := by
          unfold X11_hold
          rw [roomG hm hn, if_pos h1, md S b 0 1 0 1, if_pos h2]
          refine (bd ((misCut_ok hm hw hr).trans (congrArg some (if_neg h3)))).trans ?_
          exact if_pos rfl
        obtain ⟨t, ht, q⟩ := mhold hm hw hr b
        rw [ht] at eM
        rcases reached hx hw hl (r := r) (by omega) with ⟨y1, y2⟩ | ⟨y1, o, y2, y3, y4⟩
        · rcases q with ⟨rfl, q⟩ | ⟨rfl, o, q1, q2, q3⟩
          · rw [y1] at eX
            have eX : X10_hold S (nI r) b = (X6_longestWire S (nI r) (nI (oth A r))).bind fun x15 => if b = 0 then some x15 else (X6_costOfHolding S (nI r) (nI (oth A r)) x15).bind fun x18 => some x18 := eX
            rw [longest hx hw hl (by omega)] at eX
            obtain ⟨g, hg⟩ : ∃ g, g = fo (fun o (v : Int32) => if (oth A r).testBit o = true then (if v < nI (A.wire o r) then nI (A.wire o r) else v) else v) 0 A.n 0 := ⟨_, rfl⟩
            rw [← hg] at eX eM
            have eX : X10_hold S (nI r) b = if b = 0 then some g else (X6_costOfHolding S (nI r) (nI (oth A r)) g).bind fun x18 => some x18 := eX
            rw [costs hx hw hl (by omega)] at eX
            have key : ∀ k, fo (fun o (v : Int32) => if (oth A r).testBit o = true then v + (g - nI (A.wire o r)) else v) 0 k 0 = fo (fun o (v : Int32) => if (oth A r).testBit o = true then v + 1 else v) 0 k 0 * g - fo (fun o (v : Int32) => if (oth A r).testBit o = true then v + nI (A.wire o r) else v) 0 k 0 := by
              intro k
              induction k with
              | zero => show (0 : Int32) = 0 * g - 0; grind
              | succ k ih =>
                rw [fo_succ, fo_succ, fo_succ, ih]
                by_cases hb : (oth A r).testBit (0 + k) = true
                · rw [if_pos hb, if_pos hb, if_pos hb]
                  exact ho_ring _ _ _ _
                · rw [if_neg hb, if_neg hb, if_neg hb]
            rw [key] at eX
            by_cases hb0 : b = 0
            · refine ⟨g, ?_, ?_, hI⟩
              · rw [eX, if_pos hb0]
              · rw [eM]
                exact if_pos hb0
            · refine ⟨fo (fun o (v : Int32) => if (oth A r).testBit o = true then v + 1 else v) 0 A.n 0 * g - fo (fun o (v : Int32) => if (oth A r).testBit o = true then v + nI (A.wire o r) else v) 0 A.n 0, ?_, ?_, hI⟩
              · rw [eX, if_neg hb0]
                rfl
              · rw [eM]
                exact if_neg hb0
          · exact absurd q3 (y2 o q1 q2)
        · rcases q with ⟨rfl, q⟩ | ⟨rfl, q⟩
          · exact absurd y4 (q o y2 y3)
          · refine ⟨-4, ?_, eM, hI⟩
            rw [eX, y1]
            rfl
    · refine ⟨-1, ?_, ?_, hI⟩
      · unfold X10_hold
        rw [hasG hx hn, if_pos h1, gd b 0 1 0 1, if_neg h2]
      · unfold X11_hold
        rw [roomG hm hn, if_pos h1, md S b 0 1 0 1, if_neg h2]
  · refine ⟨-1, ?_, ?_, hI⟩
    · unfold X10_hold
      rw [hasG hx hn, if_neg h1]
    · unfold X11_hold
      rw [roomG hm hn, if_neg h1]
end HO
