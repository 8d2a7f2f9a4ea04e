/-! nets: the ways along a tree; the class's greatest wait -/
def AL (A : Ch) (M : Nat → Nat) (n t : Nat) : Nat → Nat → Nat → Nat
  | 0, _, _ => 0
  | j + 1, x, y =>
    if x = lea n t (n - 2 - j) ∧ (TH n t j).testBit y = true then A.wire (M (lea n t (n - 2 - j))) (M (par n t (n - 2 - j))) + AL A M n t j (par n t (n - 2 - j)) y
    else if y = lea n t (n - 2 - j) ∧ (TH n t j).testBit x = true then AL A M n t j x (par n t (n - 2 - j)) + A.wire (M (par n t (n - 2 - j))) (M (lea n t (n - 2 - j)))
    else AL A M n t j x y
/-- g is the greatest way of those that are joined -/
def MX (A : Ch) (M : Nat → Nat) (n t j g : Nat) : Prop := (∀ x y, x < n → y < n → (TH n t j).testBit x = true → (TH n t j).testBit y = true → AL A M n t j x y ≤ g) ∧ (g = 0 ∨ ∃ x y, (x < n ∧ y < n) ∧ (TH n t j).testBit x = true ∧ (TH n t j).testBit y = true ∧ AL A M n t j x y = g)
section WY
variable {A : Ch} {n t : Nat} {M : Nat → Nat} {T : St}
theorem MX.u {j g g' : Nat} (h : MX A M n t j g) (h' : MX A M n t j g') : g = g' := by
  have h1 : g ≤ g' := by
    rcases h.2 with z | ⟨x, y, ⟨a1, a2⟩, a3, a4, a5⟩
    · omega
    · rw [← a5]
      exact h'.1 x y a1 a2 a3 a4
  have h2 : g' ≤ g := by
    rcases h'.2 with z | ⟨x, y, ⟨a1, a2⟩, a3, a4, a5⟩
    · omega
    · rw [← a5]
      exact h.1 x y a1 a2 a3 a4
  omega
theorem TH_0 (x : Nat) : (TH n t 0).testBit x = true ↔ x = par n t (n - 2) := by
  show (2 ^ par n t (n - 2)).testBit x = true ↔ _
  rw [Nat.testBit_two_pow]
  simp only [decide_eq_true_eq]
  exact eq_comm
theorem TH_s (hT : Tre n t) {j : Nat} (hj : j < n - 1) : TH n t (j + 1) = setN (TH n t j) (lea n t (n - 2 - j)) := by
  obtain ⟨a1, a2, a3⟩ := tr_4 hT hj
  unfold setN
  rw [a3]
  rfl
theorem TH_t (hT : Tre n t) {j x : Nat} (hj : j < n - 1) (hx : x < 8) : (TH n t (j + 1)).testBit x = true ↔ x = lea n t (n - 2 - j) ∨ (TH n t j).testBit x = true := by
  have h6 := hT.2.1
  obtain ⟨a1, a2, a3⟩ := tr_4 hT hj
  obtain ⟨b1, b2, b3⟩ := tr_1 hT (i := n - 2 - j) (by omega)
  rw [TH_s hT hj, (tb8 (by omega) (by omega) hx).1]
  by_cases e : x = lea n t (n - 2 - j)
  · rw [if_pos e]
    exact ⟨fun _ => Or.inl e, fun _ => rfl⟩
  · rw [if_neg e]
    exact ⟨fun z => Or.inr z, fun z => z.resolve_left e⟩
theorem ne_l (hT : Tre n t) {j x : Nat} (hj : j < n - 1) (h : (TH n t j).testBit x = true) : x ≠ lea n t (n - 2 - j) := fun e => by
  obtain ⟨a1, a2, a3⟩ := tr_4 hT hj
  rw [e, a3] at h
  cases h
theorem AL_l {j y : Nat} (h : (TH n t j).testBit y = true) : AL A M n t (j + 1) (lea n t (n - 2 - j)) y = A.wire (M (lea n t (n - 2 - j))) (M (par n t (n - 2 - j))) + AL A M n t j (par n t (n - 2 - j)) y := if_pos ⟨rfl, h⟩
theorem AL_r (hT : Tre n t) {j x : Nat} (hj : j < n - 1) (h : (TH n t j).testBit x = true) : AL A M n t (j + 1) x (lea n t (n - 2 - j)) = AL A M n t j x (par n t (n - 2 - j)) + A.wire (M (par n t (n - 2 - j))) (M (lea n t (n - 2 - j))) := (if_neg (fun z => ne_l hT hj h z.1)).trans (if_pos ⟨rfl, h⟩)
theorem AL_o {j x y : Nat} (h1 : x ≠ lea n t (n - 2 - j)) (h2 : y ≠ lea n t (n - 2 - j)) : AL A M n t (j + 1) x y = AL A M n t j x y := (if_neg (fun z => h1 z.1)).trans (if_neg (fun z => h2 z.1))
theorem AL_d (hT : Tre n t) : ∀ j, j ≤ n - 1 → ∀ x, AL A M n t j x x = 0
  | 0, _, _ => rfl
  | j + 1, hj, x => by
    refine (if_neg (fun z => ne_l hT (by omega) z.2 z.1)).trans ?_
    refine (if_neg (fun z => ne_l hT (by omega) z.2 z.1)).trans ?_
    exact AL_d hT j (by omega) x
theorem AL_b (hw : Wf A) (hM : ∀ j, j < n → M j < 8) (hT : Tre n t) : ∀ j, j ≤ n - 1 → ∀ x y, AL A M n t j x y ≤ 400 * j
  | 0, _, _, _ => Nat.le_refl 0
  | j + 1, hj, x, y => by
    have ih := AL_b hw hM hT j (by omega)
    obtain ⟨b1, b2, b3⟩ := tr_1 hT (i := n - 2 - j) (by omega)
    have w1 := hw.2.2.1 _ _ (hM _ b1) (hM _ b3)
    have w2 := hw.2.2.1 _ _ (hM _ b3) (hM _ b1)
    have i1 := ih (par n t (n - 2 - j)) y
    have i2 := ih x (par n t (n - 2 - j))
    have i3 := ih x y
    have e : AL A M n t (j + 1) x y = if x = lea n t (n - 2 - j) ∧ (TH n t j).testBit y = true then A.wire (M (lea n t (n - 2 - j))) (M (par n t (n - 2 - j))) + AL A M n t j (par n t (n - 2 - j)) y else if y = lea n t (n - 2 - j) ∧ (TH n t j).testBit x = true then AL A M n t j x (par n t (n - 2 - j)) + A.wire (M (par n t (n - 2 - j))) (M (lea n t (n - 2 - j))) else AL A M n t j x y := rfl
    rw [e]
    split
    · omega
    · split <;> omega
theorem MX.b (hw : Wf A) (hM : ∀ j, j < n → M j < 8) (hT : Tre n t) {j g : Nat} (hj : j ≤ n - 1) (h : MX A M n t j g) : g ≤ 2000 := by
  have h6 := hT.2.1
  rcases h.2 with z | ⟨x, y, a1, a3, a4, a5⟩
  · omega
  · have := AL_b hw hM hT j hj x y
    omega
/-- the class's ways -/
def WC (A : Ch) (M : Nat → Nat) (n t j : Nat) (T : St) : Prop := ∀ x y, x < n → y < n → (TH n t j).testBit x = true → (TH n t j).testBit y = true → x ≠ y → rI T 41 (6 * x + y) = nI (AL A M n t j x y)
theorem mx2 {a b : Nat} (ha : a < 2 ^ 31) (hb : b < 2 ^ 31) : (if nI a < nI b then nI b else nI a) = nI (if a < b then b else a) := by
  by_cases h : a < b
  · rw [if_pos h, if_pos (nI_lt h hb)]
  · rw [if_neg h, if_neg (nI_nlt (by omega) ha)]
theorem join_ok (hN : NX A n M T) (hw : Wf A) (hM : ∀ j, j < n → M j < 8) (hT : Tre n t) {j : Nat} (hj : j < n - 1) (hC : WC A M n t j T) : ∃ g T', X4_join T (nI (lea n t (n - 2 - j))) (nI (par n t (n - 2 - j))) (nI (TH n t j)) = some (nI g, T') ∧ Un [41] T T' ∧ WC A M n t (j + 1) T' ∧ (∀ y, y < n → (TH n t j).testBit y = true → AL A M n t (j + 1) (lea n t (n - 2 - j)) y ≤ g ∧ AL A M n t (j + 1) y (lea n t (n - 2 - j)) ≤ g) ∧ (g = 0 ∨ ∃ y, y < n ∧ (TH n t j).testBit y = true ∧ (AL A M n t (j + 1) (lea n t (n - 2 - j)) y = g ∨ AL A M n t (j + 1) y (lea n t (n - 2 - j)) = g)) := by
  have h6 := hT.2.1
  obtain ⟨b1, b2, b3⟩ := tr_1 hT (i := n - 2 - j) (by omega)
  obtain ⟨c1, c2, c3⟩ := tr_4 hT hj
  obtain ⟨l, el⟩ : ∃ l, l = lea n t (n - 2 - j) := ⟨_, rfl⟩
  obtain ⟨p, ep⟩ : ∃ p, p = par n t (n - 2 - j) := ⟨_, rfl⟩
  have hAl := fun y => AL_l (A := A) (M := M) (n := n) (t := t) (j := j) (y := y)
  have hAr := fun x => AL_r (A := A) (M := M) hT (x := x) hj
  have hAo := fun x y => AL_o (A := A) (M := M) (n := n) (t := t) (j := j) (x := x) (y := y)
  have hne := fun x => ne_l hT (x := x) hj
  have hTt := fun x => TH_t hT (x := x) hj
  have hAb := AL_b hw hM hT j (by omega)
  have hAd := AL_d (A := A) (M := M) hT j (by omega) p
  rw [← el] at b1 c3
  rw [← ep] at b3 c2
  rw [← el, ← ep] at hAl hAr
  rw [← el] at hAo hne hTt
  rw [← el, ← ep]
  have w1 : A.wire (M l) (M p) ≤ 400 := hw.2.2.1 _ _ (hM _ b1) (hM _ b3)
  have w2 : A.wire (M p) (M l) ≤ 400 := hw.2.2.1 _ _ (hM _ b3) (hM _ b1)
  obtain ⟨fo1, efo⟩ : ∃ fo1 : Nat → Nat, fo1 = fun y => A.wire (M l) (M p) + AL A M n t j p y := ⟨_, rfl⟩
  obtain ⟨ba1, eba⟩ : ∃ ba1 : Nat → Nat, ba1 = fun y => AL A M n t j y p + A.wire (M p) (M l) := ⟨_, rfl⟩
  have bfo : ∀ y, fo1 y ≤ 2400 := fun y => by
    have := hAb p y
    rw [efo]
    show _ + _ ≤ 2400
    omega
  have bba : ∀ y, ba1 y ≤ 2400 := fun y => by
    have := hAb y p
    rw [eba]
    show _ + _ ≤ 2400
    omega
  obtain ⟨r, hr, q⟩ := forG (fun fu k (s : Int32 × St) => X4_join_L24 (nI l) (nI p) (nI (TH n t j)) (nI (A.wire (M l) (M p))) (nI (A.wire (M p) (M l))) fu s.1 (nI k) s.2) n (fun k s => ∃ g, s.1 = nI g ∧ g ≤ 2400 ∧ Un [41] T s.2 ∧ WC A M n t j s.2 ∧ (∀ y, y < k → (TH n t j).testBit y = true → (rI s.2 41 (6 * l + y) = nI (fo1 y) ∧ rI s.2 41 (6 * y + l) = nI (ba1 y)) ∧ fo1 y ≤ g ∧ ba1 y ≤ g) ∧ (g = 0 ∨ ∃ y, y < k ∧ (TH n t j).testBit y = true ∧ (fo1 y = g ∨ ba1 y = g))) (fun s => ∃ g, s.1 = nI g ∧ g ≤ 2400 ∧ Un [41] T s.2 ∧ WC A M n t j s.2 ∧ (∀ y, y < n → (TH n t j).testBit y = true → (rI s.2 41 (6 * l + y) = nI (fo1 y) ∧ rI s.2 41 (6 * y + l) = nI (ba1 y)) ∧ fo1 y ≤ g ∧ ba1 y ≤ g) ∧ (g = 0 ∨ ∃ y, y < n ∧ (TH n t j).testBit y = true ∧ (fo1 y = g ∨ ba1 y = g))) (fun fu s hp => ⟨s, if_pos (by
      obtain ⟨g, -, -, hp, -⟩ := hp
      rw [(hp 35 (by decide)).1 0, hN.2.1]
      exact nI_le (Nat.le_refl _) (by omega)), hp⟩) (fun fu k s hk hp => by
    obtain ⟨g, p1, p2, p3, p4, p5, p6⟩ := hp
    have d35 : rI s.2 35 0 = nI n := ((p3 35 (by decide)).1 0).trans hN.2.1
    right
    by_cases hb : (TH n t j).testBit k = true
    · have hkl := hne k hb
      have hkl' : ¬ k = l := hkl
      obtain ⟨S1, eS1⟩ : ∃ S1, S1 = wI s.2 41 (6 * l + k) (nI (fo1 k)) := ⟨_, rfl⟩
      obtain ⟨S2, eS2⟩ : ∃ S2, S2 = wI S1 41 (6 * k + l) (nI (ba1 k)) := ⟨_, rfl⟩
      obtain ⟨g2, eg2⟩ : ∃ g2, g2 = (if (if g < fo1 k then fo1 k else g) < ba1 k then ba1 k else (if g < fo1 k then fo1 k else g)) := ⟨_, rfl⟩
      have bg2 : (fo1 k ≤ g2 ∧ ba1 k ≤ g2 ∧ g ≤ g2) ∧ (g2 = g ∨ g2 = fo1 k ∨ g2 = ba1 k) := by
        rw [eg2]
        constructor
        · split <;> split <;> omega
        · split <;> split <;> omega
      have bk1 := bfo k
      have bk2 := bba k
      have e41 : ∀ x y, x < n → y < n → x ≠ l → y ≠ l → rI S2 41 (6 * x + y) = rI s.2 41 (6 * x + y) := fun x y hx hy h1 h2 => by
        rw [eS2, rI_wI_k (by omega), eS1, rI_wI_k (by omega)]
      have x16 : (if (if nI k = nI p then (1 : Int32) else 0) = 0 then (ldA s.2 41 ((nI p * 6) + nI k)).bind (fun x33 => some x33) else some (0 : Int32)) = some (nI (AL A M n t j p k)) := by
        by_cases e : k = p
        · rw [if_neg (by rw [e, if_pos rfl]; decide), e, hAd]
          rfl
        · rw [if_pos (if_neg (fun z => e ((nI_eq (by omega) (by omega)).mp z)))]
          exact bd ((ldA_s s.2 41 (6 * p + k) rfl (ix2 6 p k) (by show _ < 36; omega)).trans (congrArg some (p4 p k b3 hk c2 hb (fun z => e z.symm))))
      have x22 : (if (if nI k = nI p then (1 : Int32) else 0) = 0 then (ldA S1 41 ((nI k * 6) + nI p)).bind (fun x31 => some x31) else some (0 : Int32)) = some (nI (AL A M n t j k p)) := by
        by_cases e : k = p
        · rw [if_neg (by rw [e, if_pos rfl]; decide), e, hAd]
          rfl
        · rw [if_pos (if_neg (fun z => e ((nI_eq (by omega) (by omega)).mp z)))]
          refine bd ((ldA_s S1 41 (6 * k + p) rfl (ix2 6 k p) (by show _ < 36; omega)).trans (congrArg some ?_))
          rw [eS1, rI_wI_k (by omega)]
          exact p4 k p hk b3 hb c2 e
      refine ⟨(nI g2, S2), ?_, g2, rfl, by omega, ?_, ?_, fun y hy hyb => ?_, ?_⟩
      · show X4_join_L24 (nI l) (nI p) (nI (TH n t j)) (nI (A.wire (M l) (M p))) (nI (A.wire (M p) (M l))) (fu + 1) s.1 (nI k) s.2 = X4_join_L24 (nI l) (nI p) (nI (TH n t j)) (nI (A.wire (M l) (M p))) (nI (A.wire (M p) (M l))) fu (nI g2) (nI (k + 1)) S2
        refine (if_neg (by rw [d35]; exact nI_ge hk (by omega))).trans ?_
        refine (bd (a := (nI g2, S2)) ?_).trans (by show X4_join_L24 _ _ _ _ _ fu (nI g2) (nI k + 1) S2 = _; rw [nI_1])
        refine (if_neg (fun z => by rw [((bit8 (by omega) (by omega)).1.mp z)] at hb; cases hb)).trans ?_
        refine (bd (a := if nI k = nI p then (1 : Int32) else 0) (by split <;> rfl)).trans ?_
        refine (bd x16).trans ?_
        refine (bd ((stA_s s.2 41 (6 * l + k) _ rfl (ix2 6 l k) (by show _ < 36; omega)).trans (congrArg some (show wI s.2 41 (6 * l + k) (nI (A.wire (M l) (M p)) + nI (AL A M n t j p k)) = S1 by rw [eS1, nI_add, efo])))).trans ?_
        refine (bd x22).trans ?_
        refine (bd ((stA_s S1 41 (6 * k + l) _ rfl (ix2 6 k l) (by show _ < 36; omega)).trans (congrArg some (show wI S1 41 (6 * k + l) (nI (A.wire (M p) (M l)) + nI (AL A M n t j k p)) = S2 by rw [eS2, nI_add, eba, Nat.add_comm (A.wire (M p) (M l))])))).trans ?_
        refine (bd ((ldA_s S2 41 (6 * l + k) rfl (ix2 6 l k) (by show _ < 36; omega)).trans (congrArg some (show rI S2 41 (6 * l + k) = nI (fo1 k) by rw [eS2, rI_wI_k (by omega), eS1]; exact rI_wI_s _ _ _ _)))).trans ?_
        refine (bd ((ldA_s S2 41 (6 * k + l) rfl (ix2 6 k l) (by show _ < 36; omega)).trans (congrArg some (show rI S2 41 (6 * k + l) = nI (ba1 k) by rw [eS2]; exact rI_wI_s _ _ _ _)))).trans ?_
        rw [p1, mx2 (by omega) (by omega), mx2 (by split <;> omega) (by omega), ← eg2]
      · show Un [41] T S2
        rw [eS2, eS1]
        exact p3.trs ((Un.wI _ _ _ _ (by simp)).trs (Un.wI _ _ _ _ (by simp)))
      · intro x y hx hy h1 h2 h3
        show rI S2 41 (6 * x + y) = _
        rw [e41 x y hx hy (hne x h1) (hne y h2)]
        exact p4 x y hx hy h1 h2 h3
      · show (rI S2 41 (6 * l + y) = nI (fo1 y) ∧ rI S2 41 (6 * y + l) = nI (ba1 y)) ∧ _
        by_cases e : y = k
        · rw [e]
          refine ⟨⟨?_, ?_⟩, bg2.1.1, bg2.1.2.1⟩
          · rw [eS2, rI_wI_k (by omega), eS1]
            exact rI_wI_s _ _ _ _
          · rw [eS2]
            exact rI_wI_s _ _ _ _
        · obtain ⟨⟨q1, q2⟩, q3, q4⟩ := p5 y (by omega) hyb
          have hyl : ¬ y = l := hne y hyb
          refine ⟨⟨?_, ?_⟩, by omega, by omega⟩
          · rw [eS2, rI_wI_k (by omega), eS1, rI_wI_k (by omega)]
            exact q1
          · rw [eS2, rI_wI_k (by omega), eS1, rI_wI_k (by omega)]
            exact q2
      · rcases bg2.2 with z | z | z
        · rcases p6 with y | ⟨y, y1, y2, y3⟩
          · left; omega
          · right
            exact ⟨y, by omega, y2, by omega⟩
        · right
          exact ⟨k, by omega, hb, Or.inl z.symm⟩
        · right
          exact ⟨k, by omega, hb, Or.inr z.symm⟩
    · refine ⟨s, ?_, g, p1, p2, p3, p4, fun y hy hyb => p5 y (by
        have : y ≠ k := fun z => hb (by rw [← z]; exact hyb)
        omega) hyb, p6.imp id (fun ⟨y, y1, y2⟩ => ⟨y, by omega, y2⟩)⟩
      show X4_join_L24 (nI l) (nI p) (nI (TH n t j)) (nI (A.wire (M l) (M p))) (nI (A.wire (M p) (M l))) (fu + 1) s.1 (nI k) s.2 = X4_join_L24 (nI l) (nI p) (nI (TH n t j)) (nI (A.wire (M l) (M p))) (nI (A.wire (M p) (M l))) fu s.1 (nI (k + 1)) s.2
      refine (if_neg (by rw [d35]; exact nI_ge hk (by omega))).trans ?_
      refine (bd (if_pos ((bit8 (by omega) (by omega)).1.mpr (by simpa using hb)))).trans ?_
      show X4_join_L24 _ _ _ _ _ fu s.1 (nI k + 1) s.2 = _
      rw [nI_1]) n FU 0 (0, T) (by omega) (FU_lt (by omega)) ⟨0, rfl, by omega, Un.rf _ _, hC, fun y hy => by omega, Or.inl rfl⟩
  obtain ⟨g, q1, q2, q3, q4, q5, q6⟩ := q
  refine ⟨g, r.2, ?_, q3, ?_, ?_, ?_⟩
  · unfold X4_join
    refine (bd (blinks_ok hN h6 hM b1 b3)).trans ?_
    refine (bd (blinks_ok hN h6 hM b3 b1)).trans ?_
    refine (bd (show X4_join_L24 (nI l) (nI p) (nI (TH n t j)) (nI (A.wire (M l) (M p))) (nI (A.wire (M p) (M l))) FU 0 0 T = some r from hr)).trans ?_
    show some (r.1, r.2) = _
    rw [q1]
  · intro x y hx hy h1 h2 h3
    rcases (hTt x (by omega)).mp h1 with e1 | e1
    · rcases (hTt y (by omega)).mp h2 with e2 | e2
      · exact absurd (e1.trans e2.symm) h3
      · rw [e1, hAl y e2, (q5 y hy e2).1.1, efo]
    · rcases (hTt y (by omega)).mp h2 with e2 | e2
      · rw [e2, hAr x e1, (q5 x hx e1).1.2, eba]
      · rw [hAo x y (hne x e1) (hne y e2)]
        exact q4 x y hx hy e1 e2 h3
  · intro y hy hyb
    obtain ⟨-, z1, z2⟩ := q5 y hy hyb
    rw [hAl y hyb, hAr y hyb]
    rw [efo] at z1
    rw [eba] at z2
    exact ⟨z1, z2⟩
  · rcases q6 with z | ⟨y, y1, y2, y3⟩
    · exact Or.inl z
    · refine Or.inr ⟨y, y1, y2, ?_⟩
      rw [hAl y y2, hAr y y2]
      rw [efo, eba] at y3
      exact y3
theorem gw_loop (hw : Wf A) (hM : ∀ j, j < n → M j < 8) (hT : Tre n t) : ∀ c fu j s g, j + c = n - 1 → c < fu → NX A n M s → (∀ i, i < n - 1 → rI s 39 i = nI (lea n t i) ∧ rI s 40 i = nI (par n t i)) → WC A M n t j s → MX A M n t j g → ∃ g' T', X4_greatestWait_L24 fu (nI g) (nI (TH n t j)) (nI c + (-1)) s = some (nI g', T') ∧ Un [41] s T' ∧ MX A M n t (n - 1) g' := by
  have h6 := hT.2.1
  have h2 := hT.1
  intro c
  induction c with
  | zero =>
    intro fu j s g hj hfu hN hr hC hX
    obtain ⟨fu, rfl⟩ : ∃ m, fu = m + 1 := ⟨fu - 1, by omega⟩
    refine ⟨g, s, if_pos (by decide), Un.rf _ _, ?_⟩
    rw [← hj]
    exact hX
  | succ c ih =>
    intro fu j s g hj hfu hN hr hC hX
    obtain ⟨fu, rfl⟩ : ∃ m, fu = m + 1 := ⟨fu - 1, by omega⟩
    have ei : n - 2 - j = c := by omega
    obtain ⟨g1, T1, a1, a2, a3, a4, a5⟩ := join_ok hN hw hM hT (show j < n - 1 by omega) hC
    obtain ⟨b1, b2, b3⟩ := tr_1 hT (i := n - 2 - j) (by omega)
    obtain ⟨c1, c2, c3⟩ := tr_4 hT (show j < n - 1 by omega)
    have hX2 : MX A M n t (j + 1) (if g < g1 then g1 else g) := by
      constructor
      · intro x y hx hy z1 z2
        by_cases e : x = y
        · rw [e, AL_d hT (j + 1) (by omega)]
          exact Nat.zero_le _
        · rcases (TH_t hT (show j < n - 1 by omega) (by omega)).mp z1 with e1 | e1
          · rcases (TH_t hT (show j < n - 1 by omega) (by omega)).mp z2 with e2 | e2
            · exact absurd (e1.trans e2.symm) e
            · have := (a4 y hy e2).1
              rw [e1]
              split <;> omega
          · rcases (TH_t hT (show j < n - 1 by omega) (by omega)).mp z2 with e2 | e2
            · have := (a4 x hx e1).2
              rw [e2]
              split <;> omega
            · have := hX.1 x y hx hy e1 e2
              rw [AL_o (ne_l hT (by omega) e1) (ne_l hT (by omega) e2)]
              split <;> omega
      · have hl : (TH n t (j + 1)).testBit (lea n t (n - 2 - j)) = true := (TH_t hT (show j < n - 1 by omega) (by omega)).mpr (Or.inl rfl)
        have ht2 : ∀ x, x < n → (TH n t j).testBit x = true → (TH n t (j + 1)).testBit x = true := fun x hx z => (TH_t hT (show j < n - 1 by omega) (by omega)).mpr (Or.inr z)
        by_cases hg : g < g1
        · rw [if_pos hg]
          rcases a5 with z | ⟨y, y1, y2, y3 | y3⟩
          · exact Or.inl z
          · exact Or.inr ⟨_, y, ⟨b1, y1⟩, hl, ht2 y y1 y2, y3⟩
          · exact Or.inr ⟨y, _, ⟨y1, b1⟩, ht2 y y1 y2, hl, y3⟩
        · rw [if_neg hg]
          rcases hX.2 with z | ⟨x, y, ⟨y1, y2⟩, y3, y4, y5⟩
          · exact Or.inl z
          · refine Or.inr ⟨x, y, ⟨y1, y2⟩, ht2 x y1 y3, ht2 y y2 y4, ?_⟩
            rw [AL_o (ne_l hT (by omega) y3) (ne_l hT (by omega) y4)]
            exact y5
    have bg := hX.b hw hM hT (by omega)
    have bg2 := hX2.b hw hM hT (by omega)
    have bg1 : g1 ≤ 2000 := by
      by_cases hg : g < g1
      · rw [if_pos hg] at bg2
        exact bg2
      · omega
    obtain ⟨g', T', d1, d2, d3⟩ := ih fu (j + 1) T1 _ (by omega) (by omega) (hN.un (a2.mono (by simp))) (fun i hi => ⟨((a2 39 (by decide)).1 i).trans (hr i hi).1, ((a2 40 (by decide)).1 i).trans (hr i hi).2⟩) a3 hX2
    refine ⟨g', T', ?_, a2.trs d2, d3⟩
    rw [pk_m1]
    refine (if_neg (nI_pos (by omega))).trans ?_
    refine (bd ((ldA_s s 39 c rfl rfl (by show _ < 6; omega)).trans (congrArg some (hr c (by omega)).1))).trans ?_
    refine (bd ((ldA_s s 40 c rfl rfl (by show _ < 6; omega)).trans (congrArg some (hr c (by omega)).2))).trans ?_
    rw [ei] at a1
    refine (bd a1).trans ?_
    refine (bd ((ldA_s T1 39 c rfl rfl (by show _ < 6; omega)).trans (congrArg some (((a2 39 (by decide)).1 c).trans (hr c (by omega)).1)))).trans ?_
    rw [mx2 (by omega) (by omega)]
    have e3 := (bits8 (l := TH n t j) (t := lea n t c) (by omega) (by rw [← ei]; omega)).1
    have e4 := TH_s hT (show j < n - 1 by omega)
    rw [ei] at e4
    rw [e3, ← e4]
    exact d1
theorem greatest_ok (hN : NX A n M T) (hw : Wf A) (hM : ∀ j, j < n → M j < 8) (hT : Tre n t) (hr : ∀ i, i < n - 1 → rI T 39 i = nI (lea n t i) ∧ rI T 40 i = nI (par n t i)) : ∃ g T', X4_greatestWait T = some (nI g, T') ∧ Un [41] T T' ∧ MX A M n t (n - 1) g := by
  have h6 := hT.2.1
  have h2 := hT.1
  obtain ⟨b1, b2, b3⟩ := tr_1 hT (i := n - 2) (by omega)
  have hX : MX A M n t 0 0 := ⟨fun x y _ _ _ _ => Nat.le_refl 0, Or.inl rfl⟩
  have hC : WC A M n t 0 T := fun x y _ _ z1 z2 z3 => absurd (((TH_0 x).mp z1).trans ((TH_0 y).mp z2).symm) z3
  obtain ⟨g, T', a1, a2, a3⟩ := gw_loop hw hM hT (n - 1) FU 0 T 0 (by omega) (FU_lt (by omega)) hN hr hC hX
  refine ⟨g, T', ?_, a2, a3⟩
  unfold X4_greatestWait
  have e2 : rI T 35 0 - 2 = nI (n - 2) := by
    rw [hN.2.1]
    exact pk_sub (b := 2) (by omega)
  rw [e2]
  refine (bd ((ldA_s T 40 (n - 2) rfl rfl (by show _ < 6; omega)).trans (congrArg some (hr (n - 2) (by omega)).2))).trans ?_
  rw [one_shl _ (by omega)]
  have e3 : nI (n - 1) + (-1) = nI (n - 2) := by
    rw [show n - 1 = (n - 2) + 1 by omega]
    exact pk_m1 _
  rw [e3] at a1
  exact bd a1
end WY
