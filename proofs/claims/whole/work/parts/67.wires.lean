/-! wires -/
section WI
variable {S : St} {A : Ch}
theorem lda_sh {h k : Nat} (hh : h < 4) (S : St) {i : Int32} (hi : i = nI k) (hk : k < 40) : ldA S (16 + 2 * h + 1) i = some (rI S (17 + 2 * h) k) := by
  obtain ⟨-, s1, s2, s3⟩ := sh_st hh S
  rw [show 16 + 2 * h + 1 = 17 + 2 * h by omega]
  exact ldA_e s1 s3 hi (by rw [s2]; exact hk)
/-- a value that may be laid -/
def mayL (f r : Nat) (v : Int32) : Prop := 0 ≤ v.toInt ∧ v.toInt ≤ (if r = f then 0 else 400)
theorem canLay (hx : HX S 1 A) (hw : Wf A) {f h j : Nat} (hf : f < A.n) (hh : h < 4) (hj : j + A.n ≤ 40) : (X6_canLayAll S (16 + 2 * h) (nI f) (nI j) = some 1 ∧ ∀ r, r < A.n → mayL f r (rI S (17 + 2 * h) (j + r))) ∨ (X6_canLayAll S (16 + 2 * h) (nI f) (nI j) = some 0 ∧ ∃ r, r < A.n ∧ ¬ mayL f r (rI S (17 + 2 * h) (j + r))) := by
  have hn := hw.1
  obtain ⟨t, ht, e⟩ := forG (fun n k (_ : Unit) => X6_canLayAll_L3 S (nI f) (16 + 2 * h) (nI j) n (nI k)) A.n (fun k _ => ∀ r, r < k → mayL f r (rI S (17 + 2 * h) (j + r))) (fun t => (t = .inl () ∧ ∀ r, r < A.n → mayL f r (rI S (17 + 2 * h) (j + r))) ∨ (t = .inr 0 ∧ ∃ r, r < A.n ∧ ¬ mayL f r (rI S (17 + 2 * h) (j + r)))) (fun n s hp => ⟨.inl (), if_pos (xle hx hw), Or.inl ⟨rfl, hp⟩⟩) (fun n k s hk hp => by
    have e1 : X6_canLayAll_L3 S (nI f) (16 + 2 * h) (nI j) (n + 1) (nI k) = if rI S (17 + 2 * h) (j + k) < 0 then some (.inr 0) else if 400 < rI S (17 + 2 * h) (j + k) then some (.inr 0) else if nI k = nI f then (if rI S (17 + 2 * h) (j + k) = 0 then X6_canLayAll_L3 S (nI f) (16 + 2 * h) (nI j) n (nI (k + 1)) else some (.inr 0)) else X6_canLayAll_L3 S (nI f) (16 + 2 * h) (nI j) n (nI (k + 1)) := by
      refine (if_neg (xnle hx hw hk)).trans ?_
      refine (bd (ckS hh S)).trans ?_
      refine (bd (lda_sh hh S (nI_add j k) (by omega))).trans ?_
      rw [← nI_1]
    by_cases hv : mayL f k (rI S (17 + 2 * h) (j + k))
    · right
      refine ⟨(), ?_, fun r hr => ?_⟩
      · show X6_canLayAll_L3 S (nI f) (16 + 2 * h) (nI j) (n + 1) (nI k) = X6_canLayAll_L3 S (nI f) (16 + 2 * h) (nI j) n (nI (k + 1))
        rw [e1]
        obtain ⟨v1, v2⟩ := hv
        rw [if_neg (fun z => by have := (i_lt _ 0 0).mp z; omega), if_neg (fun z => by have := (i_gt _ 400 400).mp z; split at v2 <;> omega)]
        by_cases hkf : k = f
        · rw [if_pos hkf] at v2
          rw [if_pos (by rw [hkf]), if_pos ((i_eq _ 0 0).mpr (by omega))]
        · rw [if_neg (fun z => hkf ((nI_eq (by omega) (by omega)).mp z))]
      · by_cases hrk : r = k
        · rw [hrk]; exact hv
        · exact hp r (by omega)
    · left
      refine ⟨.inr 0, ?_, Or.inr ⟨rfl, k, hk, hv⟩⟩
      show X6_canLayAll_L3 S (nI f) (16 + 2 * h) (nI j) (n + 1) (nI k) = some (.inr 0)
      rw [e1]
      by_cases c1 : rI S (17 + 2 * h) (j + k) < 0
      · rw [if_pos c1]
      · rw [if_neg c1]
        by_cases c2 : 400 < rI S (17 + 2 * h) (j + k)
        · rw [if_pos c2]
        · rw [if_neg c2]
          have c1' : ¬ (rI S (17 + 2 * h) (j + k)).toInt < 0 := fun z => c1 ((i_lt _ 0 0).mpr z)
          have c2' : ¬ 400 < (rI S (17 + 2 * h) (j + k)).toInt := fun z => c2 ((i_gt _ 400 400).mpr z)
          by_cases hkf : k = f
          · rw [if_pos (by rw [hkf]), if_neg (fun z => hv ?_)]
            refine ⟨by omega, ?_⟩
            rw [if_pos hkf]
            have := (i_eq _ 0 0).mp z
            omega
          · exact absurd (show mayL f k _ from ⟨by omega, by rw [if_neg hkf]; omega⟩) hv) A.n FU 0 () (by omega) (FU_lt (by omega)) (fun o ho => absurd ho (Nat.not_lt_zero o))
  have ht : X6_canLayAll_L3 S (nI f) (16 + 2 * h) (nI j) FU 0 = some t := ht
  rcases e with ⟨rfl, e⟩ | ⟨rfl, e⟩
  · left
    refine ⟨?_, e⟩
    unfold X6_canLayAll
    exact bd ht
  · right
    refine ⟨?_, e⟩
    unfold X6_canLayAll
    exact bd ht
theorem mcan {T : St} (hm : HM T 61 0 62 0 A) (hw : Wf A) {f h j : Nat} (hf : f < A.n) (hh : h < 4) (hj : j + A.n ≤ 40) : (X11_wires_L49 T (nI f) (nI h) (nI j) FU 0 = some (.inl ()) ∧ ∀ r, r < A.n → mayL f r (rI T 79 (40 * h + j + r))) ∨ (X11_wires_L49 T (nI f) (nI h) (nI j) FU 0 = some (.inr (-2, T)) ∧ ∃ r, r < A.n ∧ ¬ mayL f r (rI T 79 (40 * h + j + r))) := by
  have hn := hw.1
  obtain ⟨t, ht, e⟩ := forG (fun n k (_ : Unit) => X11_wires_L49 T (nI f) (nI h) (nI j) n (nI k)) A.n (fun k _ => ∀ r, r < k → mayL f r (rI T 79 (40 * h + j + r))) (fun t => (t = .inl () ∧ ∀ r, r < A.n → mayL f r (rI T 79 (40 * h + j + r))) ∨ (t = .inr (-2, T) ∧ ∃ r, r < A.n ∧ ¬ mayL f r (rI T 79 (40 * h + j + r)))) (fun n s hp => ⟨.inl (), (bd (rooms_ok hm)).trans (if_pos (mle hw)), Or.inl ⟨rfl, hp⟩⟩) (fun n k s hk hp => by
    have e1 : X11_wires_L49 T (nI f) (nI h) (nI j) (n + 1) (nI k) = if 0 ≤ (rI T 79 (40 * h + j + k)).toInt ∧ (rI T 79 (40 * h + j + k)).toInt ≤ (if k = f then 0 else 400) then X11_wires_L49 T (nI f) (nI h) (nI j) n (nI (k + 1)) else some (.inr (-2, T)) := by
      refine (bd (rooms_ok hm)).trans ?_
      refine (if_neg (mnle hw hk)).trans ?_
      refine (bd (ldA_s T 79 (40 * h + j + k) rfl (by rw [show (40 : Int32) = nI 40 from rfl, pk_mul, nI_add, nI_add]) (by show _ < 160; omega))).trans ?_
      rw [← nI_1]
      by_cases hkf : k = f
      · refine (bd (if_pos (by rw [hkf]))).trans ?_
        rw [if_pos hkf]
        exact md T _ 0 0 0 0
      · refine (bd (if_neg (fun z => hkf ((nI_eq (by omega) (by omega)).mp z)))).trans ?_
        rw [if_neg hkf]
        exact md T _ 0 400 0 400
    by_cases hv : mayL f k (rI T 79 (40 * h + j + k))
    · right
      refine ⟨(), e1.trans (if_pos hv), fun r hr => ?_⟩
      by_cases hrk : r = k
      · rw [hrk]; exact hv
      · exact hp r (by omega)
    · left
      exact ⟨.inr (-2, T), e1.trans (if_neg hv), Or.inr ⟨rfl, k, hk, hv⟩⟩) A.n FU 0 () (by omega) (FU_lt (by omega)) (fun o ho => absurd ho (Nat.not_lt_zero o))
  have ht : X11_wires_L49 T (nI f) (nI h) (nI j) FU 0 = some t := ht
  rcases e with ⟨rfl, e⟩ | ⟨rfl, e⟩
  · exact Or.inl ⟨ht, e⟩
  · exact Or.inr ⟨ht, e⟩
def ctv (v : Nat → Int32) (n : Nat) : Int32 := fo (fun r (c : Int32) => c + if v r ≤ 0 then 0 else 1) 0 n 0
theorem layAll_ok (hx : HX S 1 A) (hw : Wf A) {f h j : Nat} (hf : f < A.n) (hh : h < 4) (hj : j + A.n ≤ 40) : ∃ T, X6_layAll S (16 + 2 * h) (nI f) (nI j) = some (ctv (fun r => rI S (17 + 2 * h) (j + r)) A.n, T) ∧ Un [4] S T ∧ ∀ x, rI T 4 x = if 8 * f ≤ x ∧ x < 8 * f + A.n then rI S (17 + 2 * h) (j + (x - 8 * f)) else rI S 4 x := by
  have hn := hw.1
  obtain ⟨t, ht, e1, e2, e3⟩ := forG (fun n k (s : Int32 × St) => X6_layAll_L6 (nI f) (16 + 2 * h) (nI j) n s.1 (nI k) s.2) A.n (fun k s => s.1 = ctv (fun r => rI S (17 + 2 * h) (j + r)) k ∧ Un [4] S s.2 ∧ ∀ x, rI s.2 4 x = if 8 * f ≤ x ∧ x < 8 * f + k then rI S (17 + 2 * h) (j + (x - 8 * f)) else rI S 4 x) (fun t => t.1 = ctv (fun r => rI S (17 + 2 * h) (j + r)) A.n ∧ Un [4] S t.2 ∧ ∀ x, rI t.2 4 x = if 8 * f ≤ x ∧ x < 8 * f + A.n then rI S (17 + 2 * h) (j + (x - 8 * f)) else rI S 4 x) (fun n s hp => ⟨(s.1, s.2), if_pos (by rw [(hp.2.1 2 (by decide)).1]; exact xle hx hw), hp⟩) (fun n k s hk hp => by
    obtain ⟨p1, p2, p3⟩ := hp
    right
    have ev : rI s.2 (17 + 2 * h) (j + k) = rI S (17 + 2 * h) (j + k) := (p2 (17 + 2 * h) (by simp; omega)).1 _
    refine ⟨(s.1 + (if rI S (17 + 2 * h) (j + k) ≤ 0 then 0 else 1), wI s.2 4 (8 * f + k) (rI S (17 + 2 * h) (j + k))), ?_, ?_, p2.trs (Un.wI _ _ _ _ (by simp)), fun x => ?_⟩
    · show X6_layAll_L6 (nI f) (16 + 2 * h) (nI j) (n + 1) s.1 (nI k) s.2 = X6_layAll_L6 (nI f) (16 + 2 * h) (nI j) n (s.1 + (if rI S (17 + 2 * h) (j + k) ≤ 0 then 0 else 1)) (nI (k + 1)) (wI s.2 4 (8 * f + k) (rI S (17 + 2 * h) (j + k)))
      refine (if_neg (by rw [(p2 2 (by decide)).1]; exact xnle hx hw hk)).trans ?_
      refine (bd (ckS hh s.2)).trans ?_
      refine (bd ((lda_sh hh s.2 (nI_add j k) (by omega)).trans (congrArg some ev))).trans ?_
      have el : X6_lay s.2 (nI f) (nI k) (rI S (17 + 2 * h) (j + k)) = some (rI s.2 4 (8 * f + k), wI s.2 4 (8 * f + k) (rI S (17 + 2 * h) (j + k))) := by
        unfold X6_lay
        refine (bd (between_ok (by omega) (by omega))).trans ?_
        exact bd (stA_s s.2 4 (8 * f + k) _ rfl (ix2 8 f k) (by show _ < 64; omega))
      refine (bd el).trans ?_
      refine (bd ((between_ok (by omega) (by omega)).trans (congrArg some (rI_wI_s _ _ _ _)))).trans ?_
      rw [some_if, ← nI_1]
      rfl
    · show s.1 + _ = ctv _ (k + 1)
      unfold ctv
      rw [fo_succ, Nat.zero_add, p1]
      rfl
    · show rI (wI s.2 4 (8 * f + k) (rI S (17 + 2 * h) (j + k))) 4 x = if 8 * f ≤ x ∧ x < 8 * f + (k + 1) then _ else _
      rw [rI_wI]
      by_cases hx2 : x = 8 * f + k
      · rw [if_pos ⟨rfl, hx2⟩, if_pos (by omega), hx2, show 8 * f + k - 8 * f = k by omega]
      · rw [if_neg (fun z => hx2 z.2), p3 x]
        by_cases hy : 8 * f ≤ x ∧ x < 8 * f + k
        · rw [if_pos hy, if_pos (by omega)]
        · rw [if_neg hy, if_neg (by omega)]) A.n FU 0 (0, S) (by omega) (FU_lt (by omega)) ⟨rfl, Un.rf _ _, fun x => by
      show rI S 4 x = if 8 * f ≤ x ∧ x < 8 * f + 0 then _ else _
      rw [if_neg (by omega)]⟩
  refine ⟨t.2, ?_, e2, e3⟩
  unfold X6_layAll
  have ht : X6_layAll_L6 (nI f) (16 + 2 * h) (nI j) FU 0 0 S = some t := ht
  rw [ht, ← e1]
  rfl
theorem mlay {S : St} (hm : HM S 61 0 62 0 A) (hw : Wf A) {f h j : Nat} (hf : f < A.n) (hh : h < 4) (hj : j + A.n ≤ 40) : ∃ T, X11_wires_L109 (nI f) (nI h) (nI j) FU 0 0 S = some (ctv (fun r => rI S 79 (40 * h + j + r)) A.n, T) ∧ Un [61] S T ∧ ∀ x, rI T 61 x = if 64 + 8 * f ≤ x ∧ x < 64 + 8 * f + A.n then rI S 79 (40 * h + j + (x - (64 + 8 * f))) else rI S 61 x := by
  have hn := hw.1
  obtain ⟨t, ht, e1, e2, e3⟩ := forG (fun n k (s : Int32 × St) => X11_wires_L109 (nI f) (nI h) (nI j) n s.1 (nI k) s.2) A.n (fun k s => s.1 = ctv (fun r => rI S 79 (40 * h + j + r)) k ∧ Un [61] S s.2 ∧ ∀ x, rI s.2 61 x = if 64 + 8 * f ≤ x ∧ x < 64 + 8 * f + k then rI S 79 (40 * h + j + (x - (64 + 8 * f))) else rI S 61 x) (fun t => t.1 = ctv (fun r => rI S 79 (40 * h + j + r)) A.n ∧ Un [61] S t.2 ∧ ∀ x, rI t.2 61 x = if 64 + 8 * f ≤ x ∧ x < 64 + 8 * f + A.n then rI S 79 (40 * h + j + (x - (64 + 8 * f))) else rI S 61 x) (fun n s hp => by
    have er : X11_rooms s.2 = some (nI A.n) := by
      unfold X11_rooms
      refine (bd (ldA_s s.2 61 0 rfl rfl (by decide))).trans ?_
      rw [hp.2.2 0, if_neg (by omega)]
      exact congrArg some hm.1.1
    exact ⟨(s.1, s.2), (bd er).trans (if_pos (mle hw)), hp⟩) (fun n k s hk hp => by
    obtain ⟨p1, p2, p3⟩ := hp
    have er : X11_rooms s.2 = some (nI A.n) := by
      unfold X11_rooms
      refine (bd (ldA_s s.2 61 0 rfl rfl (by decide))).trans ?_
      rw [p3 0, if_neg (by omega)]
      exact congrArg some hm.1.1
    right
    have ev : rI s.2 79 (40 * h + j + k) = rI S 79 (40 * h + j + k) := (p2 79 (by decide)).1 _
    refine ⟨(s.1 + (if rI S 79 (40 * h + j + k) ≤ 0 then 0 else 1), wI s.2 61 (64 + 8 * f + k) (rI S 79 (40 * h + j + k))), ?_, ?_, p2.trs (Un.wI _ _ _ _ (by simp)), fun x => ?_⟩
    · show X11_wires_L109 (nI f) (nI h) (nI j) (n + 1) s.1 (nI k) s.2 = X11_wires_L109 (nI f) (nI h) (nI j) n (s.1 + (if rI S 79 (40 * h + j + k) ≤ 0 then 0 else 1)) (nI (k + 1)) (wI s.2 61 (64 + 8 * f + k) (rI S 79 (40 * h + j + k)))
      refine (bd er).trans ?_
      refine (if_neg (mnle hw hk)).trans ?_
      refine (bd ((ldA_s s.2 79 (40 * h + j + k) rfl (by rw [show (40 : Int32) = nI 40 from rfl, pk_mul, nI_add, nI_add]) (by show _ < 160; omega)).trans (congrArg some ev))).trans ?_
      refine (bd (stA_s s.2 61 (64 + 8 * f + k) _ rfl (ix3 64 8 f k) (by show _ < 648; omega))).trans ?_
      refine (bd ((ldA_s _ 79 (40 * h + j + k) rfl (by rw [show (40 : Int32) = nI 40 from rfl, pk_mul, nI_add, nI_add]) (by show _ < 160; omega)).trans (congrArg some ((rI_wI_a (by decide)).trans ev)))).trans ?_
      rw [some_if, ← nI_1]
      rfl
    · show s.1 + _ = ctv _ (k + 1)
      unfold ctv
      rw [fo_succ, Nat.zero_add, p1]
      rfl
    · show rI (wI s.2 61 (64 + 8 * f + k) (rI S 79 (40 * h + j + k))) 61 x = if 64 + 8 * f ≤ x ∧ x < 64 + 8 * f + (k + 1) then _ else _
      rw [rI_wI]
      by_cases hx2 : x = 64 + 8 * f + k
      · rw [if_pos ⟨rfl, hx2⟩, if_pos (by omega), hx2, show 64 + 8 * f + k - (64 + 8 * f) = k by omega]
      · rw [if_neg (fun z => hx2 z.2), p3 x]
        by_cases hy : 64 + 8 * f ≤ x ∧ x < 64 + 8 * f + k
        · rw [if_pos hy, if_pos (by omega)]
        · rw [if_neg hy, if_neg (by omega)]) A.n FU 0 (0, S) (by omega) (FU_lt (by omega)) ⟨rfl, Un.rf _ _, fun x => by
      show rI S 61 x = if 64 + 8 * f ≤ x ∧ x < 64 + 8 * f + 0 then _ else _
      rw [if_neg (by omega)]⟩
  refine ⟨t.2, ?_, e2, e3⟩
  have ht : X11_wires_L109 (nI f) (nI h) (nI j) FU 0 0 S = some t := ht
  rw [ht, ← e1]
theorem ctv_cong {v w : Nat → Int32} (n : Nat) (h : ∀ r, r < n → v r = w r) : ctv v n = ctv w n := by
  unfold ctv
  exact fo_cong n 0 0 0 (fun j s hj => by rw [h (0 + j) (by omega)])
end WI
theorem st_wires : ∀ (S : St) (a0 : Int32) (a1 : Int32) (a2 : Int32) (a3 : Int32), Inv S → ∃ (r : Int32) (S1 : St) (S2 : St), X10_wires S a0 a1 a2 a3 = some (r, S1) ∧ X11_wires S1 a0 a1 a2 a3 = some (r, S2) ∧ Inv S2 := by
  intro S a b la i hI
  obtain ⟨⟨A, hw, hx, hm⟩, -, -, hs, -⟩ := id hI
  have hn := hw.1
  by_cases h0 : 0 ≤ a.toInt ∧ a.toInt < A.n
  · by_cases h1 : 0 ≤ b.toInt ∧ b.toInt ≤ 3
    · by_cases h2 : 0 ≤ la.toInt ∧ la.toInt ≤ 2
      · obtain ⟨f, hf, rfl⟩ := i_nat h0.1 h0.2
        obtain ⟨h, hh, rfl⟩ := i_nat (x := b) (n := 4) h1.1 (by omega)
        have hsh := hs h hh
        obtain ⟨⟨a1, a2⟩, ⟨z, b1, b2, b3⟩, c⟩ := id hsh
        have eX : X10_wires S (nI f) (nI h) la i = (X7_refusal S (16 + 2 * h) la).bind fun x14 => if x14 = 0 then ((X7_holds S (16 + 2 * h) i (nI A.n)).bind fun x18 => if x18 = 0 then some (-13, S) else (X6_canLayAll S (16 + 2 * h) (nI f) i).bind fun x21 => if x21 = 0 then some (-2, S) else (X6_layAll S (16 + 2 * h) (nI f) i).bind fun (x24, S25) => some (x24, S25)) else some (x14, S) := by
          unfold X10_wires
          rw [hasG hx hn, if_pos h0, shG, if_pos h1, laG, if_pos h2, ldS_s h rfl hh]
          refine (bd (rfl : some (16 + 2 * h) = some (16 + 2 * h))).trans ?_
          refine (bd (ckS hh S)).trans ?_
          rw [nN hx]
          congr 1
          funext x
          split
          · exact bd (ckS hh S)
          · rfl
        have eM : ∀ T, HM T 61 0 62 0 A → rI T 78 h = nI z → (∀ j, rI T 77 j = rI S 77 j) → X11_wires T (nI f) (nI h) la i = if (0 : Int32) ≤ rI S 77 h then (if rI S 77 h = la then (if 0 ≤ i.toInt ∧ i.toInt + A.n ≤ z then ((X11_wires_L49 T (nI f) (nI h) i FU 0).bind fun t => match t with
            | .inr (x46, S47) => some (x46, S47)
            | .inl _ => (X11_wires_L109 (nI f) (nI h) i FU 0 0 T).bind fun (x41, S42) => some (x41, S42)) else some (-13, T)) else some (-12, T)) else some (-11, T) := fun T hT h78 h77 => by
          unfold X11_wires
          rw [roomG hT hn, if_pos h0, mshG, if_pos h1, mlaG, if_pos h2]
          refine (bd (rooms_ok hT)).trans ?_
          rw [finds_ok hh b1 h78 la i (nI A.n), h77, nT (by omega)]
          by_cases k1 : (0 : Int32) ≤ rI S 77 h
          · rw [if_pos k1, if_pos k1]
            by_cases k2 : rI S 77 h = la
            · rw [if_pos k2, if_pos k2]
              by_cases k3 : 0 ≤ i.toInt ∧ i.toInt + A.n ≤ z
              · rw [if_pos k3, if_pos k3]
                rfl
              · rw [if_neg k3, if_neg k3]
                rfl
            · rw [if_neg k2, if_neg k2]
              rfl
          · rw [if_neg k1, if_neg k1]
            rfl
        rw [refusal_ok hh hsh la] at eX
        by_cases k1 : (0 : Int32) ≤ rI S 77 h
        · by_cases k2 : rI S 77 h = la
          · rw [if_pos k1, if_pos k2] at eX
            have eX : X10_wires S (nI f) (nI h) la i = (X7_holds S (16 + 2 * h) i (nI A.n)).bind fun x18 => if x18 = 0 then some (-13, S) else (X6_canLayAll S (16 + 2 * h) (nI f) i).bind fun x21 => if x21 = 0 then some (-2, S) else (X6_layAll S (16 + 2 * h) (nI f) i).bind fun (x24, S25) => some (x24, S25) := eX
            rw [holds_ok hh b1 b2 i (nI A.n), nT (by omega)] at eX
            by_cases k3 : 0 ≤ i.toInt ∧ i.toInt + A.n ≤ z
            · rw [if_pos (by omega)] at eX
              obtain ⟨j, hj, rfl⟩ := i_nat (x := i) (n := 41) (by omega) (by omega)
              have hj2 : j + A.n ≤ 40 := by
                have := k3.2
                rw [nT (by omega)] at this
                omega
              have eX : X10_wires S (nI f) (nI h) la (nI j) = (X6_canLayAll S (16 + 2 * h) (nI f) (nI j)).bind fun x21 => if x21 = 0 then some (-2, S) else (X6_layAll S (16 + 2 * h) (nI f) (nI j)).bind fun (x24, S25) => some (x24, S25) := eX
              have ec : ∀ r, r < A.n → rI S (17 + 2 * h) (j + r) = rI S 79 (40 * h + j + r) := fun r hr => by
                rw [c (j + r) (by omega)]
                congr 1
                omega
              rcases canLay hx hw hf hh hj2 with ⟨y1, y2⟩ | ⟨y1, r, y2, y3⟩
              · rw [y1] at eX
                have eX : X10_wires S (nI f) (nI h) la (nI j) = (X6_layAll S (16 + 2 * h) (nI f) (nI j)).bind fun (x24, S25) => some (x24, S25) := eX
                obtain ⟨T, t1, t2, t3⟩ := layAll_ok hx hw hf hh hj2
                rw [t1] at eX
                have hmT : HM T 61 0 62 0 A := hm.un t2 (by decide) (by decide)
                have e79 : ∀ x, rI T 79 x = rI S 79 x := (t2 79 (by decide)).1
                have eM' := eM T hmT (((t2 78 (by decide)).1 h).trans b3) (fun j => (t2 77 (by decide)).1 j)
                rw [if_pos k1, if_pos k2, if_pos k3] at eM'
                rcases mcan hmT hw hf hh hj2 with ⟨g1, g2⟩ | ⟨g1, r, g2, g3⟩
                · rw [g1] at eM'
                  have eM' : X11_wires T (nI f) (nI h) la (nI j) = (X11_wires_L109 (nI f) (nI h) (nI j) FU 0 0 T).bind fun (x41, S42) => some (x41, S42) := eM'
                  obtain ⟨U, u1, u2, u3⟩ := mlay hmT hw hf hh hj2
                  rw [u1] at eM'
                  have ecv : ctv (fun r => rI T 79 (40 * h + j + r)) A.n = ctv (fun r => rI S (17 + 2 * h) (j + r)) A.n := ctv_cong _ (fun r hr => by rw [e79, ec r hr])
                  refine ⟨ctv (fun r => rI S (17 + 2 * h) (j + r)) A.n, T, U, eX, ?_, ?_⟩
                  · rw [eM', ecv]
                    rfl
                  · have hu : Un [4, 61] S U := (t2.mono (by simp)).trs (u2.mono (by simp))
                    have hv : ∀ t, t < A.n → rI S (17 + 2 * h) (j + t) = nI (rI S (17 + 2 * h) (j + t)).toInt.toNat ∧ (rI S (17 + 2 * h) (j + t)).toInt.toNat ≤ (if t = f then 0 else 400) := fun t ht => by
                      obtain ⟨m1, m2⟩ := y2 t ht
                      have m3 : (rI S (17 + 2 * h) (j + t)).toInt ≤ 400 := by split at m2 <;> omega
                      refine ⟨Int32.toInt_inj.mp ?_, ?_⟩
                      · rw [nT (by omega)]
                        omega
                      · split at m2
                        · rw [if_pos (by assumption)]; omega
                        · rw [if_neg (by assumption)]; omega
                    refine hI.a hu (by decide) (A := (A.n, A.val, fun f' t' => if f' = f ∧ t' < A.n then (rI S (17 + 2 * h) (j + t')).toInt.toNat else A.wire f' t', A.lo, A.pace, A.fit, A.most, A.len, A.snd, A.ln, A.los)) ?_ ?_ ?_
                    · obtain ⟨w1, w2, w3, w4, w5⟩ := hw
                      refine ⟨w1, w2, fun f' t' g1 g2 => ?_, fun f' g1 => ?_, w5⟩
                      · show (if f' = f ∧ t' < A.n then (rI S (17 + 2 * h) (j + t')).toInt.toNat else A.wire f' t') ≤ 400
                        split
                        · rename_i hc
                          have := (hv t' hc.2).2
                          split at this <;> omega
                        · exact w3 f' t' g1 g2
                      · show (if f' = f ∧ f' < A.n then (rI S (17 + 2 * h) (j + f')).toInt.toNat else A.wire f' f') = 0
                        split
                        · rename_i hc
                          have := (hv f' hc.2).2
                          rw [if_pos hc.1] at this
                          omega
                        · exact w4 f' g1
                    · have hxU : HX U 1 A → True := fun _ => trivial
                      have q := hx
                      obtain ⟨⟨q1, q2, q3, q4, q5, q6⟩, q7, q8, q9, q10, q11⟩ := q
                      have n1 := (hu 1 (by decide)).1
                      have n2 := (hu 2 (by decide)).1
                      have n3 := (hu 3 (by decide)).1
                      have n5 := (hu 5 (by decide)).1
                      have n6 := (hu 6 (by decide)).1
                      have n7 := (hu 7 (by decide)).1
                      have n8 := (hu 8 (by decide)).1
                      have n9 := (hu 9 (by decide)).2.1
                      refine ⟨⟨(n2 0).trans q1, (n2 1).trans q2, (n2 2).trans q3, (n1 3).trans q4, (n6 0).trans q5, (n8 0).trans q6⟩, fun r w g1 g2 => (n3 _).trans (q7 r w g1 g2), fun f' t' g1 g2 => ?_, fun d r g1 g2 => (n5 _).trans (q9 d r g1 g2), fun k g => (n7 _).trans (q10 k g), fun k g => (n9 _).trans (q11 k g)⟩
                      show rI U 4 (8 * f' + t') = nI (if f' = f ∧ t' < A.n then (rI S (17 + 2 * h) (j + t')).toInt.toNat else A.wire f' t')
                      rw [(u2 4 (by decide)).1, t3]
                      by_cases hc : f' = f ∧ t' < A.n
                      · rw [if_pos hc, if_pos (by omega), show 8 * f' + t' - 8 * f = t' by omega]
                        exact (hv t' hc.2).1
                      · rw [if_neg hc, if_neg (by omega)]
                        exact q8 f' t' g1 g2
                    · obtain ⟨⟨q1, q2, q3, q4, q5, q6⟩, q7, q8, q9, q10, q11, q12⟩ := hmT
                      have o : ∀ x, ¬ (64 + 8 * f ≤ x ∧ x < 64 + 8 * f + A.n) → rI U 61 x = rI T 61 x := fun x hx => by rw [u3, if_neg hx]
                      have hl := hw.2.2.2.2.2.2.2.1
                      refine ⟨⟨(o _ (by omega)).trans q1, (o _ (by omega)).trans q2, (o _ (by omega)).trans q3, (o _ (by omega)).trans q4, (o _ (by omega)).trans q5, (o _ (by omega)).trans q6⟩, fun r w g1 g2 => (o _ (by have g1 : r < A.n := g1; omega)).trans (q7 r w g1 g2), fun r w g1 g2 g3 g4 => (o _ (by omega)).trans (q8 r w g1 g2 g3 g4), fun f' t' g1 g2 => ?_, fun d r w g1 g2 g3 => (o _ (by omega)).trans (q10 d r w g1 g2 g3), fun k g => (o _ (by omega)).trans (q11 k g), fun k g => ((u2 62 (by decide)).2.1 _).trans (q12 k g)⟩
                      show rI U 61 (0 + 64 + 8 * f' + t') = nI (if f' = f ∧ t' < A.n then (rI S (17 + 2 * h) (j + t')).toInt.toNat else A.wire f' t')
                      by_cases hc : f' = f ∧ t' < A.n
                      · rw [u3, if_pos hc, if_pos (by omega), show 0 + 64 + 8 * f' + t' - (64 + 8 * f) = t' by omega, e79, ← ec t' hc.2]
                        exact (hv t' hc.2).1
                      · rw [if_neg hc, o _ (by omega)]
                        exact q9 f' t' g1 g2
                · exact absurd (by rw [e79, ← ec r g2]; exact y2 r g2) g3
              · rw [y1] at eX
                refine ⟨-2, S, S, eX, ?_, hI⟩
                rw [eM S hm b3 (fun _ => rfl), if_pos k1, if_pos k2, if_pos k3]
                rcases mcan hm hw hf hh hj2 with ⟨g1, g2⟩ | ⟨g1, g2⟩
                · exact absurd (by rw [ec r y2]; exact g2 r y2) y3
                · rw [g1]
                  rfl
            · rw [if_neg (by omega)] at eX
              refine ⟨-13, S, S, eX, ?_, hI⟩
              rw [eM S hm b3 (fun _ => rfl), if_pos k1, if_pos k2, if_neg k3]
          · rw [if_pos k1, if_neg k2] at eX
            refine ⟨-12, S, S, eX, ?_, hI⟩
            rw [eM S hm b3 (fun _ => rfl), if_pos k1, if_neg k2]
        · rw [if_neg k1] at eX
          refine ⟨-11, S, S, eX, ?_, hI⟩
          rw [eM S hm b3 (fun _ => rfl), if_neg k1]
      · refine ⟨-1, S, S, ?_, ?_, hI⟩
        · unfold X10_wires
          rw [hasG hx hn, if_pos h0, shG, if_pos h1, laG, if_neg h2]
        · unfold X11_wires
          rw [roomG hm hn, if_pos h0, mshG, if_pos h1, mlaG, if_neg h2]
    · refine ⟨-1, S, S, ?_, ?_, hI⟩
      · unfold X10_wires
        rw [hasG hx hn, if_pos h0, shG, if_neg h1]
      · unfold X11_wires
        rw [roomG hm hn, if_pos h0, mshG, if_neg h1]
  · refine ⟨-1, S, S, ?_, ?_, hI⟩
    · unfold X10_wires
      rw [hasG hx hn, if_neg h0]
    · unfold X11_wires
      rw [roomG hm hn, if_neg h0]
