/-! nets: the reference's ways -/
/-- the reference's table of ways -/
def wv (A : Ch) (M : Nat → Nat) (n t j x y : Nat) : Int32 := if x = y then 0 else if (TH n t j).testBit x = true ∧ (TH n t j).testBit y = true then nI (AL A M n t j x y) else -1
def WM (A : Ch) (M : Nat → Nat) (n t j : Nat) (T : St) : Prop := ∀ x y, x < n → y < n → rI T 73 (6 * x + y) = wv A M n t j x y
theorem ite_cg {α : Type} {c d : Prop} [Decidable c] [Decidable d] (h : c ↔ d) {a b : α} : (if c then a else b) = if d then a else b := by
  by_cases z : c
  · rw [if_pos z, if_pos (h.mp z)]
  · rw [if_neg z, if_neg (fun y => z (h.mpr y))]
theorem m1_lt : (-1 : Int32) < 0 := by decide
section WA
variable {A : Ch} {n t : Nat} {M : Nat → Nat} {T : St}
theorem wv_in (hT : Tre n t) {j x y : Nat} (hj : j ≤ n - 1) (hx : (TH n t j).testBit x = true) (hy : (TH n t j).testBit y = true) : wv A M n t j x y = nI (AL A M n t j x y) := by
  unfold wv
  by_cases e : x = y
  · rw [if_pos e, e, AL_d hT j hj]
    rfl
  · rw [if_neg e, if_pos ⟨hx, hy⟩]
theorem wv_out {j x y : Nat} (h : ¬ ((TH n t j).testBit x = true ∧ (TH n t j).testBit y = true)) (e : x ≠ y) : wv A M n t j x y = -1 := by
  unfold wv
  rw [if_neg e, if_neg h]
theorem along0 (v1 : Int32) : ∃ T', X11_waitOf_L2 v1 FU 0 T = some T' ∧ Un [73] T T' ∧ ∀ k, k < 36 → rI T' 73 k = if k % 7 = 0 then 0 else -1 :=
  forG (fun fu k (s : St) => X11_waitOf_L2 v1 fu (nI k) s) 36 (fun k s => Un [73] T s ∧ ∀ v, v < k → rI s 73 v = if v % 7 = 0 then 0 else -1) (fun s => Un [73] T s ∧ ∀ v, v < 36 → rI s 73 v = if v % 7 = 0 then 0 else -1) (fun fu s hp => ⟨s, if_pos (by decide), hp⟩) (fun fu k s hk hp => by
    right
    refine ⟨wI s 73 k (if k % 7 = 0 then 0 else -1), ?_, hp.1.trs (Un.wI _ _ _ _ (by simp)), fun v hv => ?_⟩
    · show X11_waitOf_L2 v1 (fu + 1) (nI k) s = X11_waitOf_L2 v1 fu (nI (k + 1)) _
      refine (if_neg (nI_ge (b := 36) hk (by decide))).trans ?_
      refine (bd (rmN (d := 7) (by omega) (by decide) (by decide))).trans ?_
      refine (bd (a := if k % 7 = 0 then (0 : Int32) else -1) ?_).trans ?_
      · by_cases e : k % 7 = 0
        · rw [if_pos e, e]
          rfl
        · rw [if_neg e]
          exact if_neg (nI_ne0 (by omega) (by omega))
      · refine (bd (stA_s s 73 k _ rfl rfl hk)).trans ?_
        rw [nI_1]
    · rw [rI_wI]
      by_cases e : v = k
      · rw [if_pos ⟨rfl, e⟩, e]
      · rw [if_neg (fun z => e z.2)]
        exact hp.2 v (by omega)) 36 FU 0 T (by omega) (FU_lt (by omega)) ⟨Un.rf _ _, fun v hv => by omega⟩
theorem WM_0 (h6 : n ≤ 6) (h : ∀ k, k < 36 → rI T 73 k = if k % 7 = 0 then 0 else -1) : WM A M n t 0 T := fun x y hx hy => by
  rw [h _ (by omega)]
  by_cases e : x = y
  · unfold wv
    rw [if_pos (by omega), if_pos e]
  · rw [if_neg (by omega), wv_out (fun z => e (((TH_0 x).mp z.1).trans ((TH_0 y).mp z.2).symm)) e]
theorem way_ok (hw : Wf A) (hM : ∀ j, j < n → M j < 8) (hT : Tre n t) {j : Nat} (hj : j < n - 1) (hC : WM A M n t j T) (v2 : Int32) : ∃ T', X11_waitOf_L115 (nI n) v2 (nI (lea n t (n - 2 - j))) (nI (par n t (n - 2 - j))) (nI (A.wire (M (lea n t (n - 2 - j))) (M (par n t (n - 2 - j))))) (nI (A.wire (M (par n t (n - 2 - j))) (M (lea n t (n - 2 - j))))) FU 0 T = some T' ∧ Un [73] T T' ∧ WM A M n t (j + 1) T' := by
  have h6 := hT.2.1
  obtain ⟨b1, b2, b3⟩ := tr_1 hT (i := n - 2 - j) (by omega)
  obtain ⟨c1, c2, c3⟩ := tr_4 hT hj
  obtain ⟨l, el⟩ : ∃ l, l = lea n t (n - 2 - j) := ⟨_, rfl⟩
  obtain ⟨p, ep⟩ : ∃ p, p = par n t (n - 2 - j) := ⟨_, rfl⟩
  have hAl := fun y => AL_l (A := A) (M := M) (n := n) (t := t) (j := j) (y := y)
  have hAr := fun x => AL_r (A := A) (M := M) hT (x := x) hj
  have hAo := fun x y => AL_o (A := A) (M := M) (n := n) (t := t) (j := j) (x := x) (y := y)
  have hne := fun x => ne_l hT (x := x) hj
  have hTt := fun x => TH_t hT (x := x) hj
  have hAb := AL_b hw hM hT j (by omega)
  rw [← el] at b1 c3
  rw [← ep] at b3 c2
  rw [← el, ← ep] at hAl hAr
  rw [← el] at hAo hne hTt
  rw [← el, ← ep]
  have w1 : A.wire (M l) (M p) ≤ 400 := hw.2.2.1 _ _ (hM _ b1) (hM _ b3)
  have w2 : A.wire (M p) (M l) ≤ 400 := hw.2.2.1 _ _ (hM _ b3) (hM _ b1)
  have hpl : p ≠ l := hne p c2
  obtain ⟨go, ego⟩ : ∃ go, go = A.wire (M l) (M p) := ⟨_, rfl⟩
  obtain ⟨ba, eba⟩ : ∃ ba, ba = A.wire (M p) (M l) := ⟨_, rfl⟩
  rw [← ego] at hAl w1
  rw [← eba] at hAr w2
  rw [← ego, ← eba]
  obtain ⟨T', hr, q1, q2, q3, q4⟩ := forG (fun fu k (s : St) => X11_waitOf_L115 (nI n) v2 (nI l) (nI p) (nI go) (nI ba) fu (nI k) s) n (fun k s => Un [73] T s ∧ (∀ x y, x < n → y < n → x ≠ l → y ≠ l → rI s 73 (6 * x + y) = wv A M n t j x y) ∧ rI s 73 (6 * l + l) = 0 ∧ ∀ y, y < n → y ≠ l → rI s 73 (6 * l + y) = (if y < k ∧ (TH n t j).testBit y = true then nI (go + AL A M n t j p y) else -1) ∧ rI s 73 (6 * y + l) = (if y < k ∧ (TH n t j).testBit y = true then nI (AL A M n t j y p + ba) else -1)) (fun s => Un [73] T s ∧ (∀ x y, x < n → y < n → x ≠ l → y ≠ l → rI s 73 (6 * x + y) = wv A M n t j x y) ∧ rI s 73 (6 * l + l) = 0 ∧ ∀ y, y < n → y ≠ l → rI s 73 (6 * l + y) = (if y < n ∧ (TH n t j).testBit y = true then nI (go + AL A M n t j p y) else -1) ∧ rI s 73 (6 * y + l) = (if y < n ∧ (TH n t j).testBit y = true then nI (AL A M n t j y p + ba) else -1)) (fun fu s hp => ⟨s, if_pos (nI_le (Nat.le_refl _) (by omega)), hp⟩) (fun fu k s hk hp => by
    obtain ⟨p1, p2, p3, p4⟩ := hp
    right
    have stay : (k = l ∨ (TH n t j).testBit k = false) → ∀ y, y ≠ l → ((y < k ∧ (TH n t j).testBit y = true) ↔ (y < k + 1 ∧ (TH n t j).testBit y = true)) := fun h y hy => by
      constructor
      · exact fun z => ⟨by omega, z.2⟩
      · intro z
        refine ⟨?_, z.2⟩
        have : y ≠ k := fun e => by
          rcases h with h | h
          · exact hy (e.trans h)
          · rw [← e, z.2] at h
            cases h
        omega
    by_cases hkl : k = l
    · refine ⟨s, ?_, p1, p2, p3, fun y hy hyl => ?_⟩
      · show X11_waitOf_L115 (nI n) v2 (nI l) (nI p) (nI go) (nI ba) (fu + 1) (nI k) s = X11_waitOf_L115 (nI n) v2 (nI l) (nI p) (nI go) (nI ba) fu (nI (k + 1)) s
        refine (if_neg (nI_ge hk (by omega))).trans ?_
        refine (bd (if_pos (by rw [hkl]))).trans ?_
        rw [nI_1]
      · obtain ⟨z1, z2⟩ := p4 y hy hyl
        have e := stay (Or.inl hkl) y hyl
        exact ⟨z1.trans (ite_cg e), z2.trans (ite_cg e)⟩
    · have hkl2 : ¬ nI k = nI l := fun z => hkl ((nI_eq (by omega) (by omega)).mp z)
      have r1 : ldA s 73 (nI 6 * nI p + nI k) = some (wv A M n t j p k) := (ldA_s s 73 (6 * p + k) rfl (ix2' 6 p k) (by show _ < 36; omega)).trans (congrArg some (p2 p k b3 hk hpl hkl))
      by_cases hb : (TH n t j).testBit k = true
      · have v1 : wv A M n t j p k = nI (AL A M n t j p k) := wv_in hT (by omega) c2 hb
        have v3 : wv A M n t j k p = nI (AL A M n t j k p) := wv_in hT (by omega) hb c2
        have bk1 := hAb p k
        have bk2 := hAb k p
        obtain ⟨S1, eS1⟩ : ∃ S1, S1 = wI s 73 (6 * l + k) (nI (go + AL A M n t j p k)) := ⟨_, rfl⟩
        obtain ⟨S2, eS2⟩ : ∃ S2, S2 = wI S1 73 (6 * k + l) (nI (AL A M n t j k p + ba)) := ⟨_, rfl⟩
        have r2 : ldA S1 73 (nI 6 * nI k + nI p) = some (nI (AL A M n t j k p)) := by
          refine (ldA_s S1 73 (6 * k + p) rfl (ix2' 6 k p) (by show _ < 36; omega)).trans (congrArg some ?_)
          rw [eS1, rI_wI_k (by omega), p2 k p hk b3 hkl hpl]
          exact v3
        refine ⟨S2, ?_, ?_, fun x y hx hy h1 h2 => ?_, ?_, fun y hy hyl => ?_⟩
        · show X11_waitOf_L115 (nI n) v2 (nI l) (nI p) (nI go) (nI ba) (fu + 1) (nI k) s = X11_waitOf_L115 (nI n) v2 (nI l) (nI p) (nI go) (nI ba) fu (nI (k + 1)) S2
          refine (if_neg (nI_ge hk (by omega))).trans ?_
          refine (bd (a := S2) ?_).trans (by rw [nI_1])
          refine (if_neg hkl2).trans ?_
          refine (bd (r1.trans (congrArg some v1))).trans ?_
          refine (if_neg (nI_pos (by omega))).trans ?_
          refine (bd (r1.trans (congrArg some v1))).trans ?_
          refine (bd ((stA_s s 73 (6 * l + k) _ rfl (ix2' 6 l k) (by show _ < 36; omega)).trans (congrArg some (show wI s 73 (6 * l + k) (nI go + nI (AL A M n t j p k)) = S1 by rw [eS1, nI_add])))).trans ?_
          refine (bd r2).trans ?_
          exact bd ((stA_s S1 73 (6 * k + l) _ rfl (ix2' 6 k l) (by show _ < 36; omega)).trans (congrArg some (show wI S1 73 (6 * k + l) (nI (AL A M n t j k p) + nI ba) = S2 by rw [eS2, nI_add])))
        · rw [eS2, eS1]
          exact p1.trs ((Un.wI _ _ _ _ (by simp)).trs (Un.wI _ _ _ _ (by simp)))
        · rw [eS2, rI_wI_k (by omega), eS1, rI_wI_k (by omega)]
          exact p2 x y hx hy h1 h2
        · rw [eS2, rI_wI_k (by omega), eS1, rI_wI_k (by omega)]
          exact p3
        · by_cases e : y = k
          · rw [e, if_pos ⟨by omega, hb⟩, if_pos ⟨by omega, hb⟩]
            constructor
            · rw [eS2, rI_wI_k (by omega), eS1]
              exact rI_wI_s _ _ _ _
            · rw [eS2]
              exact rI_wI_s _ _ _ _
          · obtain ⟨z1, z2⟩ := p4 y hy hyl
            have e3 : (y < k ∧ (TH n t j).testBit y = true) ↔ (y < k + 1 ∧ (TH n t j).testBit y = true) := ⟨fun z => ⟨by omega, z.2⟩, fun z => ⟨by omega, z.2⟩⟩
            constructor
            · rw [eS2, rI_wI_k (by omega), eS1, rI_wI_k (by omega)]
              exact z1.trans (ite_cg e3)
            · rw [eS2, rI_wI_k (by omega), eS1, rI_wI_k (by omega)]
              exact z2.trans (ite_cg e3)
      · have hb0 : (TH n t j).testBit k = false := by simpa using hb
        have v1 : wv A M n t j p k = -1 := wv_out (fun z => hb z.2) (fun e => hb (by rw [← e]; exact c2))
        refine ⟨s, ?_, p1, p2, p3, fun y hy hyl => ?_⟩
        · show X11_waitOf_L115 (nI n) v2 (nI l) (nI p) (nI go) (nI ba) (fu + 1) (nI k) s = X11_waitOf_L115 (nI n) v2 (nI l) (nI p) (nI go) (nI ba) fu (nI (k + 1)) s
          refine (if_neg (nI_ge hk (by omega))).trans ?_
          refine (bd (a := s) ?_).trans (by rw [nI_1])
          refine (if_neg hkl2).trans ?_
          refine (bd (r1.trans (congrArg some v1))).trans ?_
          exact if_pos m1_lt
        · obtain ⟨z1, z2⟩ := p4 y hy hyl
          have e := stay (Or.inr hb0) y hyl
          exact ⟨z1.trans (ite_cg e), z2.trans (ite_cg e)⟩) n FU 0 T (by omega) (FU_lt (by omega)) ⟨Un.rf _ _, fun x y hx hy _ _ => hC x y hx hy, (hC l l b1 b1).trans (if_pos rfl), fun y hy hyl => by
      rw [if_neg (fun z => Nat.not_lt_zero _ z.1), if_neg (fun z => Nat.not_lt_zero _ z.1), hC l y b1 hy, hC y l hy b1]
      exact ⟨wv_out (fun z => by rw [c3] at z; cases z.1) (fun e => hyl e.symm), wv_out (fun z => by rw [c3] at z; cases z.2) hyl⟩⟩
  refine ⟨T', hr, q1, fun x y hx hy => ?_⟩
  by_cases hxl : x = l
  · by_cases hyl : y = l
    · rw [hxl, hyl, q3]
      exact (if_pos rfl).symm
    · rw [hxl, (q4 y hy hyl).1]
      by_cases hb : (TH n t j).testBit y = true
      · rw [if_pos ⟨hy, hb⟩, wv_in hT (by omega) ((hTt l (by omega)).mpr (Or.inl rfl)) ((hTt y (by omega)).mpr (Or.inr hb)), hAl y hb]
      · rw [if_neg (fun z => hb z.2), wv_out (fun z => ((hTt y (by omega)).mp z.2).elim hyl hb) (fun e => hyl e.symm)]
  · by_cases hyl : y = l
    · rw [hyl, (q4 x hx hxl).2]
      by_cases hb : (TH n t j).testBit x = true
      · rw [if_pos ⟨hx, hb⟩, wv_in hT (by omega) ((hTt x (by omega)).mpr (Or.inr hb)) ((hTt l (by omega)).mpr (Or.inl rfl)), hAr x hb]
      · rw [if_neg (fun z => hb z.2), wv_out (fun z => ((hTt x (by omega)).mp z.1).elim hxl hb) hxl]
    · rw [q2 x y hx hy hxl hyl]
      unfold wv
      rw [hAo x y hxl hyl]
      have ex : (TH n t (j + 1)).testBit x = true ↔ (TH n t j).testBit x = true := ⟨fun z => ((hTt x (by omega)).mp z).resolve_left hxl, fun z => (hTt x (by omega)).mpr (Or.inr z)⟩
      have ey : (TH n t (j + 1)).testBit y = true ↔ (TH n t j).testBit y = true := ⟨fun z => ((hTt y (by omega)).mp z).resolve_left hyl, fun z => (hTt y (by omega)).mpr (Or.inr z)⟩
      rw [ite_cg (and_congr ex ey)]
theorem wt_loop (hw : Wf A) (hM : ∀ j, j < n → M j < 8) (hT : Tre n t) : ∀ c fu j s, j + c = n - 1 → c < fu → NM A n M s → Eds n t s → WM A M n t j s → (∀ i, c ≤ i → i < n - 1 → gdP A M n t i) → ∃ r, X11_waitOf_L36 (nI n) fu (nI c + (-1)) s = some r ∧ ((∃ T', r = .inl T' ∧ Un [73] s T' ∧ WM A M n t (n - 1) T' ∧ ∀ i, i < n - 1 → gdP A M n t i) ∨ (∃ T', r = .inr (-4, T') ∧ Un [73] s T' ∧ ∃ i, i < n - 1 ∧ ¬ gdP A M n t i)) := by
  have h6 := hT.2.1
  have h2 := hT.1
  intro c
  induction c with
  | zero =>
    intro fu j s hj hfu hN hE hC hg
    obtain ⟨fu, rfl⟩ : ∃ m, fu = m + 1 := ⟨fu - 1, by omega⟩
    have hj : j = n - 1 := hj
    refine ⟨.inl s, if_pos (by decide), Or.inl ⟨s, rfl, Un.rf _ _, ?_, fun i hi => hg i (Nat.zero_le _) hi⟩⟩
    rw [← hj]
    exact hC
  | succ c ih =>
    intro fu j s hj hfu hN hE hC hg
    obtain ⟨fu, rfl⟩ : ∃ m, fu = m + 1 := ⟨fu - 1, by omega⟩
    have ei : n - 2 - j = c := by omega
    obtain ⟨b1, b2, b3⟩ := tr_1 hT (i := c) (by omega)
    obtain ⟨T1, a1, a2, a3⟩ := way_ok hw hM hT (show j < n - 1 by omega) hC (nI c)
    rw [ei] at a1
    have w1 := (wire0 hw (hM _ b1) (hM _ b3)).1
    have w2 := (wire0 hw (hM _ b3) (hM _ b1)).1
    have e0 : X11_waitOf_L36 (nI n) (fu + 1) (nI (c + 1) + (-1)) s = if nI (A.wire (M (lea n t c)) (M (par n t c))) = 0 then some (.inr (-4, s)) else if nI (A.wire (M (par n t c)) (M (lea n t c))) = 0 then some (.inr (-4, s)) else X11_waitOf_L36 (nI n) fu (nI c + (-1)) T1 := by
      rw [pk_m1]
      refine (if_neg (nI_pos (by omega))).trans ?_
      refine (bd ((ldA_s s 72 (2 * c) rfl (pk_mul 2 c) (by show _ < 10; omega)).trans (congrArg some (hE c (by omega)).1))).trans ?_
      refine (bd ((ldA_s s 72 (2 * c + 1) rfl (by rw [← nI_1, ← pk_mul]; rfl) (by show _ < 10; omega)).trans (congrArg some (hE c (by omega)).2))).trans ?_
      refine (bd ((ldA_s s 69 (lea n t c) rfl rfl (by show _ < 6; omega)).trans (congrArg some (hN.2 _ b1)))).trans ?_
      refine (bd ((ldA_s s 69 (par n t c) rfl rfl (by show _ < 6; omega)).trans (congrArg some (hN.2 _ b3)))).trans ?_
      refine (bd (wiro hN.1 (hM _ b1) (hM _ b3))).trans ?_
      refine (bd ((ldA_s s 69 (par n t c) rfl rfl (by show _ < 6; omega)).trans (congrArg some (hN.2 _ b3)))).trans ?_
      refine (bd ((ldA_s s 69 (lea n t c) rfl rfl (by show _ < 6; omega)).trans (congrArg some (hN.2 _ b1)))).trans ?_
      refine (bd (wiro hN.1 (hM _ b3) (hM _ b1))).trans ?_
      show (if nI (A.wire (M (lea n t c)) (M (par n t c))) = 0 then some (.inr (-4, s)) else if nI (A.wire (M (par n t c)) (M (lea n t c))) = 0 then some (.inr (-4, s)) else (X11_waitOf_L115 (nI n) (nI c) (nI (lea n t c)) (nI (par n t c)) (nI (A.wire (M (lea n t c)) (M (par n t c)))) (nI (A.wire (M (par n t c)) (M (lea n t c)))) FU 0 s).bind fun S47 => X11_waitOf_L36 (nI n) fu (nI c + (-1)) S47) = _
      rw [a1]
      rfl
    by_cases z1 : A.wire (M (lea n t c)) (M (par n t c)) = 0
    · refine ⟨.inr (-4, s), ?_, Or.inr ⟨s, rfl, Un.rf _ _, c, by omega, fun z => z.1 z1⟩⟩
      rw [e0, if_pos (w1.mpr z1)]
    · by_cases z2 : A.wire (M (par n t c)) (M (lea n t c)) = 0
      · refine ⟨.inr (-4, s), ?_, Or.inr ⟨s, rfl, Un.rf _ _, c, by omega, fun z => z.2 z2⟩⟩
        rw [e0, if_neg (fun z => z1 (w1.mp z)), if_pos (w2.mpr z2)]
      · obtain ⟨r, d1, d2⟩ := ih fu (j + 1) T1 (by omega) (by omega) (hN.un (a2.mono (by simp))) (fun i hi => ⟨((a2 72 (by decide)).1 _).trans (hE i hi).1, ((a2 72 (by decide)).1 _).trans (hE i hi).2⟩) a3 (fun i h1 h2 => by
          by_cases e : i = c
          · rw [e]
            exact ⟨z1, z2⟩
          · exact hg i (by omega) h2)
        refine ⟨r, ?_, ?_⟩
        · rw [e0, if_neg (fun z => z1 (w1.mp z)), if_neg (fun z => z2 (w2.mp z))]
          exact d1
        · rcases d2 with ⟨T', f1, f2, f3⟩ | ⟨T', f1, f2, f3⟩
          · exact Or.inl ⟨T', f1, a2.trs f2, f3⟩
          · exact Or.inr ⟨T', f1, a2.trs f2, f3⟩
theorem mxr (hw : Wf A) (hM : ∀ j, j < n → M j < 8) (hT : Tre n t) (hC : WM A M n t (n - 1) T) {x g : Nat} (hx : x < n) (hg : g ≤ 2400) : ∃ r, X11_waitOf_L223 T (nI n) (nI x) FU (nI g) 0 = some r ∧ ∃ g', r = nI g' ∧ g ≤ g' ∧ g' ≤ 2400 ∧ (∀ y, y < n → (TH n t (n - 1)).testBit x = true → (TH n t (n - 1)).testBit y = true → AL A M n t (n - 1) x y ≤ g') ∧ (g' = g ∨ ∃ y, y < n ∧ (TH n t (n - 1)).testBit x = true ∧ (TH n t (n - 1)).testBit y = true ∧ AL A M n t (n - 1) x y = g') := by
  have h6 := hT.2.1
  exact forG (fun fu k (s : Int32) => X11_waitOf_L223 T (nI n) (nI x) fu s (nI k)) n (fun k r => ∃ g', r = nI g' ∧ g ≤ g' ∧ g' ≤ 2400 ∧ (∀ y, y < k → (TH n t (n - 1)).testBit x = true → (TH n t (n - 1)).testBit y = true → AL A M n t (n - 1) x y ≤ g') ∧ (g' = g ∨ ∃ y, y < n ∧ (TH n t (n - 1)).testBit x = true ∧ (TH n t (n - 1)).testBit y = true ∧ AL A M n t (n - 1) x y = g')) _ (fun fu s hp => ⟨s, if_pos (nI_le (Nat.le_refl _) (by omega)), hp⟩) (fun fu k s hk hp => by
    obtain ⟨g', rfl, p1, p2, p3, p4⟩ := hp
    right
    have r1 : ldA T 73 (nI 6 * nI x + nI k) = some (wv A M n t (n - 1) x k) := (ldA_s T 73 (6 * x + k) rfl (ix2' 6 x k) (by show _ < 36; omega)).trans (congrArg some (hC x k hx hk))
    have e0 : X11_waitOf_L223 T (nI n) (nI x) (fu + 1) (nI g') (nI k) = X11_waitOf_L223 T (nI n) (nI x) fu (if wv A M n t (n - 1) x k ≤ nI g' then nI g' else wv A M n t (n - 1) x k) (nI (k + 1)) := by
      refine (if_neg (nI_ge hk (by omega))).trans ?_
      refine (bd r1).trans ?_
      refine (bd (a := if wv A M n t (n - 1) x k ≤ nI g' then nI g' else wv A M n t (n - 1) x k) ?_).trans (by rw [nI_1])
      by_cases e : wv A M n t (n - 1) x k ≤ nI g'
      · rw [if_pos e, if_pos e]
      · rw [if_neg e, if_neg e]
        exact bd r1
    by_cases hb : (TH n t (n - 1)).testBit x = true ∧ (TH n t (n - 1)).testBit k = true
    · have v1 : wv A M n t (n - 1) x k = nI (AL A M n t (n - 1) x k) := wv_in hT (Nat.le_refl _) hb.1 hb.2
      have ba := AL_b hw hM hT (n - 1) (Nat.le_refl _) x k
      rw [v1] at e0
      by_cases hle : AL A M n t (n - 1) x k ≤ g'
      · refine ⟨nI g', ?_, g', rfl, p1, p2, fun y hy h1 h2 => ?_, p4⟩
        · show X11_waitOf_L223 T (nI n) (nI x) (fu + 1) (nI g') (nI k) = _
          rw [e0, if_pos (nI_le hle (by omega))]
        · by_cases e : y = k
          · rw [e]; exact hle
          · exact p3 y (by omega) h1 h2
      · refine ⟨nI (AL A M n t (n - 1) x k), ?_, AL A M n t (n - 1) x k, rfl, by omega, by omega, fun y hy h1 h2 => ?_, Or.inr ⟨k, hk, hb.1, hb.2, rfl⟩⟩
        · show X11_waitOf_L223 T (nI n) (nI x) (fu + 1) (nI g') (nI k) = _
          rw [e0, if_neg (nI_ge (by omega) (by omega))]
        · by_cases e : y = k
          · rw [e]; exact Nat.le_refl _
          · have := p3 y (by omega) h1 h2
            omega
    · refine ⟨nI g', ?_, g', rfl, p1, p2, fun y hy h1 h2 => ?_, p4⟩
      · show X11_waitOf_L223 T (nI n) (nI x) (fu + 1) (nI g') (nI k) = _
        rw [e0, if_pos]
        unfold wv
        by_cases e : x = k
        · rw [if_pos e]
          exact nI_pos' (by omega)
        · rw [if_neg e, if_neg hb]
          have hz := (i_ge (nI g') 0 0).mp (nI_pos' (n := g') (by omega))
          exact (i_ge (nI g') (-1) (-1)).mpr (by omega)
      · by_cases e : y = k
        · rw [e] at h2
          exact absurd ⟨h1, h2⟩ hb
        · exact p3 y (by omega) h1 h2) n FU 0 (nI g) (by omega) (FU_lt (by omega)) ⟨g, rfl, Nat.le_refl _, hg, fun y hy => absurd hy (Nat.not_lt_zero y), Or.inl rfl⟩
theorem mxa (hw : Wf A) (hM : ∀ j, j < n → M j < 8) (hT : Tre n t) (hC : WM A M n t (n - 1) T) : ∃ r, X11_waitOf_L215 T (nI n) FU 0 0 = some r ∧ ∃ g, r = nI g ∧ MX A M n t (n - 1) g := by
  have h6 := hT.2.1
  exact forG (fun fu k (s : Int32) => X11_waitOf_L215 T (nI n) fu s (nI k)) n (fun k r => ∃ g, r = nI g ∧ g ≤ 2400 ∧ (∀ x y, x < k → y < n → (TH n t (n - 1)).testBit x = true → (TH n t (n - 1)).testBit y = true → AL A M n t (n - 1) x y ≤ g) ∧ (g = 0 ∨ ∃ x y, (x < n ∧ y < n) ∧ (TH n t (n - 1)).testBit x = true ∧ (TH n t (n - 1)).testBit y = true ∧ AL A M n t (n - 1) x y = g)) (fun r => ∃ g, r = nI g ∧ MX A M n t (n - 1) g) (fun fu s hp => ⟨s, if_pos (nI_le (Nat.le_refl _) (by omega)), by
      obtain ⟨g, e, -, p1, p2⟩ := hp
      exact ⟨g, e, p1, p2⟩⟩) (fun fu k s hk hp => by
    obtain ⟨g, rfl, p1, p2, p3⟩ := hp
    obtain ⟨r, a1, g', rfl, a2, a3, a4, a5⟩ := mxr hw hM hT hC hk p1
    right
    refine ⟨nI g', ?_, g', rfl, a3, fun x y hx hy h1 h2 => ?_, ?_⟩
    · show X11_waitOf_L215 T (nI n) (fu + 1) (nI g) (nI k) = X11_waitOf_L215 T (nI n) fu (nI g') (nI (k + 1))
      refine (if_neg (nI_ge hk (by omega))).trans ?_
      refine (bd a1).trans ?_
      rw [nI_1]
    · by_cases e : x = k
      · rw [e] at h1 ⊢
        exact a4 y hy h1 h2
      · have := p2 x y (by omega) hy h1 h2
        omega
    · rcases a5 with z | ⟨y, y1, y2, y3, y4⟩
      · rw [z]
        exact p3
      · exact Or.inr ⟨k, y, ⟨hk, y1⟩, y2, y3, y4⟩) n FU 0 0 (by omega) (FU_lt (by omega)) ⟨0, rfl, by omega, fun x y hx => absurd hx (Nat.not_lt_zero x), Or.inl rfl⟩
theorem wait_ok (hN : NM A n M T) (hw : Wf A) (hM : ∀ j, j < n → M j < 8) (hT : Tre n t) (hE : Eds n t T) : ∃ v T', X11_waitOf T (nI n) = some (v, T') ∧ Un [73] T T' ∧ ((v = -4 ∧ ∃ i, i < n - 1 ∧ ¬ gdP A M n t i) ∨ ((∀ i, i < n - 1 → gdP A M n t i) ∧ ∃ g, v = nI g ∧ MX A M n t (n - 1) g)) := by
  have h6 := hT.2.1
  have h2 := hT.1
  obtain ⟨T1, a1, a2, a3⟩ := along0 (T := T) (nI n)
  have hN1 : NM A n M T1 := hN.un (a2.mono (by simp))
  have hE1 : Eds n t T1 := fun i hi => ⟨((a2 72 (by decide)).1 _).trans (hE i hi).1, ((a2 72 (by decide)).1 _).trans (hE i hi).2⟩
  obtain ⟨r, b1, b2⟩ := wt_loop hw hM hT (n - 1) FU 0 T1 (by omega) (FU_lt (by omega)) hN1 hE1 (WM_0 h6 a3) (fun i h1 h2 => by omega)
  have e2 : nI (n - 1) + (-1) = nI n - 2 := by
    rw [show n - 1 = (n - 2) + 1 by omega, pk_m1]
    exact (pk_sub (b := 2) (by omega)).symm
  rw [e2] at b1
  rcases b2 with ⟨T2, rfl, c1, c2, c3⟩ | ⟨T2, rfl, c1, c2⟩
  · obtain ⟨r, d1, g, rfl, d2⟩ := mxa hw hM hT c2
    refine ⟨nI g, T2, ?_, a2.trs c1, Or.inr ⟨c3, g, rfl, d2⟩⟩
    unfold X11_waitOf
    refine (bd a1).trans ?_
    refine (bd b1).trans ?_
    exact bd d1
  · refine ⟨-4, T2, ?_, a2.trs c1, Or.inl ⟨rfl, c2⟩⟩
    unfold X11_waitOf
    refine (bd a1).trans ?_
    exact bd b1
end WA
