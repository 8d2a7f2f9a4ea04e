section TM
variable {S : St} {A : Ch}
theorem mb1 (hm : HM S 61 0 62 0 A) (hw : Wf A) {l k : Nat} (hl : l < 256) (hk : k < 8) (v1 v3 : Int32) (x : Bool) : X11_bars_L52 S v1 (nI l) v3 (nI k) FU (if x = true then 1 else 0) 1000 0 = some (if x = true ∧ reach A l k = true then 1 else 0, nI (mnw l.testBit (wk A k) 1000 A.n)) := by
  have hn := hw.1
  obtain ⟨t, ht, e1, e2⟩ := forG (fun m j (s : Int32 × Int32) => X11_bars_L52 S v1 (nI l) v3 (nI k) m s.1 s.2 (nI j)) A.n (fun j s => s.2 = nI (mnw l.testBit (wk A k) 1000 j) ∧ ((s.1 = 1 ∧ x = true ∧ ∀ r, r < j → l.testBit r = true → A.wire r k ≠ 0) ∨ (s.1 = 0 ∧ (x = false ∨ ∃ r, r < j ∧ l.testBit r = true ∧ A.wire r k = 0)))) (fun t => t.2 = nI (mnw l.testBit (wk A k) 1000 A.n) ∧ ((t.1 = 1 ∧ x = true ∧ ∀ r, r < A.n → l.testBit r = true → A.wire r k ≠ 0) ∨ (t.1 = 0 ∧ (x = false ∨ ∃ r, r < A.n ∧ l.testBit r = true ∧ A.wire r k = 0)))) (fun m s hp => ⟨(s.1, s.2), (bd (rooms_ok hm)).trans (if_pos (mle hw)), hp⟩) (fun m j s hj hp => by
    obtain ⟨p1, p2⟩ := hp
    right
    have b := bit8 hl (t := j) (by omega)
    have ew : X11_wireOf S (nI j) (nI k) = some (nI (A.wire j k)) := wiro hm (by omega) hk
    have hwj := hw.2.2.1 j k (by omega) hk
    have h4 := mnw_le l.testBit (wk A k) 1000 j
    have es : mnw l.testBit (wk A k) 1000 (j + 1) = if l.testBit j = true then min (mnw l.testBit (wk A k) 1000 j) (A.wire j k) else mnw l.testBit (wk A k) 1000 j := rfl
    by_cases hb : l.testBit j = true
    · have e3 : X11_bars_L52 S v1 (nI l) v3 (nI k) (m + 1) s.1 s.2 (nI j) = X11_bars_L52 S v1 (nI l) v3 (nI k) m (if s.1 = 0 then 0 else if nI (A.wire j k) ≤ 0 then 0 else 1) (nI (mnw l.testBit (wk A k) 1000 (j + 1))) (nI (j + 1)) := by
        refine (bd (rooms_ok hm)).trans ?_
        refine (if_neg (mnle hw hj)).trans ?_
        refine (bd (if_pos (b.2.mpr hb))).trans ?_
        rw [ew]
        have e4 : (if s.1 = 0 then some (0 : Int32) else if (1 : Int32) = 0 then some 1 else (some (nI (A.wire j k))).bind fun x34 => if x34 ≤ 0 then some 0 else some 1) = some (if s.1 = 0 then 0 else if nI (A.wire j k) ≤ 0 then 0 else 1) := by
          by_cases h0 : s.1 = 0
          · rw [if_pos h0, if_pos h0]
          · rw [if_neg h0, if_neg h0]
            refine (if_neg (by decide)).trans ?_
            exact some_if
        refine (bd e4).trans ?_
        have e5 : (if (1 : Int32) = 0 then some s.2 else (some (nI (A.wire j k))).bind fun x28 => if s.2 ≤ x28 then some s.2 else (some (nI (A.wire j k))).bind fun x31 => some x31) = some (nI (mnw l.testBit (wk A k) 1000 (j + 1))) := by
          refine (if_neg (by decide)).trans ?_
          show (if s.2 ≤ nI (A.wire j k) then some s.2 else some (nI (A.wire j k))) = _
          rw [p1, es, if_pos hb]
          by_cases hc : mnw l.testBit (wk A k) 1000 j ≤ A.wire j k
          · rw [if_pos (nI_le hc (by omega)), Nat.min_eq_left hc]
          · rw [if_neg (nI_ge (by omega) (by omega)), Nat.min_eq_right (by omega)]
        refine (bd e5).trans ?_
        rw [nI_1]
      refine ⟨(if s.1 = 0 then 0 else if nI (A.wire j k) ≤ 0 then 0 else 1, nI (mnw l.testBit (wk A k) 1000 (j + 1))), e3, rfl, ?_⟩
      rcases p2 with ⟨q1, q2, q3⟩ | ⟨q1, q2⟩
      · by_cases h0 : A.wire j k = 0
        · right
          refine ⟨?_, Or.inr ⟨j, by omega, hb, h0⟩⟩
          show (if s.1 = 0 then 0 else if nI (A.wire j k) ≤ 0 then 0 else 1) = (0 : Int32)
          rw [if_neg (by rw [q1]; decide), if_pos ((n0 (by omega)).2.mpr h0)]
        · left
          refine ⟨?_, q2, fun r hr h1 => ?_⟩
          · show (if s.1 = 0 then 0 else if nI (A.wire j k) ≤ 0 then 0 else 1) = (1 : Int32)
            rw [if_neg (by rw [q1]; decide), if_neg (fun z => h0 ((n0 (by omega)).2.mp z))]
          · by_cases hrj : r = j
            · rw [hrj]; exact h0
            · exact q3 r (by omega) h1
      · right
        refine ⟨if_pos q1, ?_⟩
        rcases q2 with q2 | ⟨r, q2, q3⟩
        · exact Or.inl q2
        · exact Or.inr ⟨r, by omega, q3⟩
    · have e3 : X11_bars_L52 S v1 (nI l) v3 (nI k) (m + 1) s.1 s.2 (nI j) = X11_bars_L52 S v1 (nI l) v3 (nI k) m (if s.1 = 0 then 0 else 1) (nI (mnw l.testBit (wk A k) 1000 (j + 1))) (nI (j + 1)) := by
        refine (bd (rooms_ok hm)).trans ?_
        refine (if_neg (mnle hw hj)).trans ?_
        refine (bd (if_neg (fun z => hb (b.2.mp z)))).trans ?_
        have e4 : (if s.1 = 0 then some (0 : Int32) else if (0 : Int32) = 0 then some 1 else (X11_wireOf S (nI j) (nI k)).bind fun x34 => if x34 ≤ 0 then some 0 else some 1) = some (if s.1 = 0 then 0 else 1) := by
          by_cases h0 : s.1 = 0
          · rw [if_pos h0, if_pos h0]
          · rw [if_neg h0, if_neg h0]
            exact if_pos rfl
        refine (bd e4).trans ?_
        refine (bd (if_pos rfl)).trans ?_
        rw [nI_1, es, if_neg hb, p1]
      refine ⟨(if s.1 = 0 then 0 else 1, nI (mnw l.testBit (wk A k) 1000 (j + 1))), e3, rfl, ?_⟩
      rcases p2 with ⟨q1, q2, q3⟩ | ⟨q1, q2⟩
      · left
        refine ⟨?_, q2, fun r hr h1 => ?_⟩
        · show (if s.1 = 0 then 0 else 1) = (1 : Int32)
          rw [if_neg (by rw [q1]; decide)]
        · by_cases hrj : r = j
          · rw [hrj] at h1; exact absurd h1 hb
          · exact q3 r (by omega) h1
      · right
        refine ⟨if_pos q1, ?_⟩
        rcases q2 with q2 | ⟨r, q2, q3⟩
        · exact Or.inl q2
        · exact Or.inr ⟨r, by omega, q3⟩) A.n FU 0 (if x = true then 1 else 0, 1000) (by omega) (FU_lt (by omega)) ⟨rfl, by
      cases x
      · exact Or.inr ⟨rfl, Or.inl rfl⟩
      · exact Or.inl ⟨rfl, rfl, fun r hr => absurd hr (Nat.not_lt_zero r)⟩⟩
  have ht : X11_bars_L52 S v1 (nI l) v3 (nI k) FU (if x = true then 1 else 0) 1000 0 = some t := ht
  rw [ht]
  congr 1
  refine Prod.ext ?_ e1
  rcases e2 with ⟨q1, q2, q3⟩ | ⟨q1, q2⟩
  · rw [if_pos ⟨q2, reach_iff.mpr q3⟩]
    exact q1
  · rw [if_neg]
    · exact q1
    · intro z
      rcases q2 with q2 | ⟨r, q2, q3, q4⟩
      · rw [q2] at z; exact absurd z.1 (by decide)
      · exact reach_iff.mp z.2 r q2 q3 q4
theorem ss_ (a b : Int32) : a - (a - b) = b := by grind
theorem mb2 (hm : HM S 61 0 62 0 A) (hw : Wf A) {l k : Nat} (hl : l < 256) (hk : k < 8) (v1 : Int32) : ∃ U, X11_bars_L153 v1 (nI l) 0 (nI k) (nI (sh A l k)) FU 1 5000 0 S = some (1, U) ∧ Un [64] S U ∧ lnk A l 64 U (some (fun r => A.wire r k - sh A l k)) := by
  have hn := hw.1
  obtain ⟨t, ht, e1, e2, e3⟩ := forG (fun m j (s : Int32 × Int32 × St) => X11_bars_L153 v1 (nI l) 0 (nI k) (nI (sh A l k)) m s.1 s.2.1 (nI j) s.2.2) A.n (fun j s => s.1 = 1 ∧ (s.2.1 = 5000 ∨ s.2.1 = nI (sh A l k)) ∧ Un [64] S s.2.2 ∧ ∀ r, r < j → l.testBit r = true → rI s.2.2 64 r = nI (A.wire r k) - nI (sh A l k)) (fun t => t.1 = 1 ∧ Un [64] S t.2 ∧ ∀ r, r < A.n → l.testBit r = true → rI t.2 64 r = nI (A.wire r k) - nI (sh A l k)) (fun m s hp => ⟨(s.1, s.2.2), (bd (rooms_ok (hm.un hp.2.2.1 (by decide) (by decide)))).trans (if_pos (mle hw)), hp.1, hp.2.2⟩) (fun m j s hj hp => by
    obtain ⟨p1, p2, p3, p4⟩ := hp
    have hms := hm.un p3 (by decide) (by decide)
    right
    have b := bit8 hl (t := j) (by omega)
    by_cases hb : l.testBit j = true
    · refine ⟨(1, nI (sh A l k), wI s.2.2 64 j (nI (A.wire j k) - nI (sh A l k))), ?_, rfl, Or.inr rfl, p3.trs (Un.wI _ _ _ _ (by simp)), fun r hr h1 => ?_⟩
      · show X11_bars_L153 v1 (nI l) 0 (nI k) (nI (sh A l k)) (m + 1) s.1 s.2.1 (nI j) s.2.2 = X11_bars_L153 v1 (nI l) 0 (nI k) (nI (sh A l k)) m 1 (nI (sh A l k)) (nI (j + 1)) (wI s.2.2 64 j (nI (A.wire j k) - nI (sh A l k)))
        refine (bd (rooms_ok hms)).trans ?_
        refine (if_neg (mnle hw hj)).trans ?_
        refine (if_neg (by rw [p1]; decide)).trans ?_
        rw [if_pos (b.2.mpr hb), wiro hms (by omega) hk]
        have hmt : HM (wI s.2.2 64 j (nI (A.wire j k) - nI (sh A l k))) 61 0 62 0 A := hms.un (Un.wI _ _ _ _ (L := [64]) (by simp)) (by decide) (by decide)
        have e6 : ((if (0 : Int32) = 0 then ((some (nI (A.wire j k))).bind fun x70 => some (x70 - nI (sh A l k))) else (ldA s.2.2 64 (nI j)).bind fun x67 => some x67).bind fun x50 => (stA s.2.2 64 (nI j) x50).bind fun S53 => (X11_wireOf S53 (nI j) (nI k)).bind fun x56 => (ldA S53 64 (nI j)).bind fun x57 => (if s.2.1 = 5000 then some (x56 - x57) else some s.2.1).bind fun x60 => (if (x56 - x57) = x60 then some (1 : Int32) else some 0).bind fun x64 => some (x64, x60, S53)) = some (1, nI (sh A l k), wI s.2.2 64 j (nI (A.wire j k) - nI (sh A l k))) := by
          rw [if_pos rfl]
          refine (bd (rfl : ((some (nI (A.wire j k))).bind fun x70 => some (x70 - nI (sh A l k))) = some (nI (A.wire j k) - nI (sh A l k)))).trans ?_
          refine (bd (stA_s s.2.2 64 j _ rfl rfl (by show _ < 8; omega))).trans ?_
          refine (bd (wiro hmt (by omega) hk)).trans ?_
          refine (bd ((ldA_s _ 64 j rfl rfl (by show _ < 8; omega)).trans (congrArg some (rI_wI_s _ _ _ _)))).trans ?_
          rw [ss_]
          have e7 : (if s.2.1 = 5000 then some (nI (sh A l k)) else some s.2.1) = some (nI (sh A l k)) := by
            rcases p2 with p2 | p2
            · rw [if_pos p2]
            · rw [p2]
              split <;> rfl
          refine (bd e7).trans ?_
          exact bd (if_pos rfl)
        refine (bd e6).trans ?_
        rw [nI_1]
      · rw [rI_wI]
        by_cases hrj : r = j
        · rw [if_pos ⟨rfl, hrj⟩, hrj]
        · rw [if_neg (fun z => hrj z.2)]
          exact p4 r (by omega) h1
    · refine ⟨s, ?_, p1, p2, p3, fun r hr h1 => ?_⟩
      · show X11_bars_L153 v1 (nI l) 0 (nI k) (nI (sh A l k)) (m + 1) s.1 s.2.1 (nI j) s.2.2 = X11_bars_L153 v1 (nI l) 0 (nI k) (nI (sh A l k)) m s.1 s.2.1 (nI (j + 1)) s.2.2
        refine (bd (rooms_ok hms)).trans ?_
        refine (if_neg (mnle hw hj)).trans ?_
        refine (if_neg (by rw [p1]; decide)).trans ?_
        rw [if_neg (fun z => hb (b.2.mp z)), ← nI_1]
        rfl
      · by_cases hrj : r = j
        · rw [hrj] at h1; exact absurd h1 hb
        · exact p4 r (by omega) h1) A.n FU 0 (1, 5000, S) (by omega) (FU_lt (by omega)) ⟨rfl, Or.inl rfl, Un.rf _ _, fun r hr => absurd hr (Nat.not_lt_zero r)⟩
  have ht : X11_bars_L153 v1 (nI l) 0 (nI k) (nI (sh A l k)) FU 1 5000 0 S = some t := ht
  refine ⟨t.2, ?_, e2, fun f hf r hr hb => ?_⟩
  · rw [ht, ← e1]
  · cases hf
    rw [e3 r hr hb]
    exact pk_sub (mnw_at l.testBit (wk A k) 400 hb A.n hr)
theorem d5000 {a b : Nat} (ha : a ≤ 400) (hb : b ≤ 400) : ¬ nI a - nI b = 5000 := fun z => by
  have := congrArg Int32.toInt z
  rw [pk_sub_toInt (by omega) (by omega)] at this
  have h : (5000 : Int32).toInt = 5000 := rfl
  omega
theorem mb3 (hm : HM S 61 0 62 0 A) (hw : Wf A) {l k : Nat} (hl : l < 256) (hk : k < 8) {f : Nat → Nat} (hg : good A l f) (hf : lnk A l 64 S (some f)) (v1 v3 v6 : Int32) (h3 : ¬ v3 = 0) : ∃ U, X11_bars_L153 v1 (nI l) v3 (nI k) v6 FU 1 5000 0 S = some (if agree A l k f = true then 1 else 0, U) ∧ Un [64] S U ∧ lnk A l 64 U (some f) := by
  have hn := hw.1
  obtain ⟨t, ht, e1, e2, e3⟩ := forG (fun m j (s : Int32 × Int32 × St) => X11_bars_L153 v1 (nI l) v3 (nI k) v6 m s.1 s.2.1 (nI j) s.2.2) A.n (fun j s => Un [64] S s.2.2 ∧ lnk A l 64 s.2.2 (some f) ∧ ((s.1 = 1 ∧ ((s.2.1 = 5000 ∧ ∀ r, r < j → ¬ l.testBit r = true) ∨ (¬ s.2.1 = 5000 ∧ (∃ r, r < j ∧ l.testBit r = true) ∧ ∀ r, r < j → l.testBit r = true → nI (A.wire r k) - nI (f r) = s.2.1))) ∨ (s.1 = 0 ∧ ∃ r r', r < A.n ∧ r' < A.n ∧ l.testBit r = true ∧ l.testBit r' = true ∧ nI (A.wire r k) - nI (f r) ≠ nI (A.wire r' k) - nI (f r')))) (fun t => Un [64] S t.2 ∧ lnk A l 64 t.2 (some f) ∧ ((t.1 = 1 ∧ ∀ r r', r < A.n → r' < A.n → l.testBit r = true → l.testBit r' = true → nI (A.wire r k) - nI (f r) = nI (A.wire r' k) - nI (f r')) ∨ (t.1 = 0 ∧ ∃ r r', r < A.n ∧ r' < A.n ∧ l.testBit r = true ∧ l.testBit r' = true ∧ nI (A.wire r k) - nI (f r) ≠ nI (A.wire r' k) - nI (f r')))) (fun m s hp => by
    obtain ⟨p1, p2, p3⟩ := hp
    refine ⟨(s.1, s.2.2), (bd (rooms_ok (hm.un p1 (by decide) (by decide)))).trans (if_pos (mle hw)), p1, p2, ?_⟩
    rcases p3 with ⟨q1, ⟨-, q2⟩ | ⟨-, -, q2⟩⟩ | q
    · exact Or.inl ⟨q1, fun r r' hr _ hb _ => absurd hb (q2 r hr)⟩
    · exact Or.inl ⟨q1, fun r r' hr hr' hb hb' => (q2 r hr hb).trans (q2 r' hr' hb').symm⟩
    · exact Or.inr q) (fun m j s hj hp => by
    obtain ⟨p1, p2, p3⟩ := hp
    have hms := hm.un p1 (by decide) (by decide)
    rcases p3 with ⟨q1, q2⟩ | ⟨q1, q2⟩
    · right
      have b := bit8 hl (t := j) (by omega)
      by_cases hb : l.testBit j = true
      · have hwj := hw.2.2.1 j k (by omega) hk
        have hfj := hg.1 j hj hb
        obtain ⟨D, hD⟩ : ∃ D, D = nI (A.wire j k) - nI (f j) := ⟨_, rfl⟩
        obtain ⟨F, hF⟩ : ∃ F, F = (if s.2.1 = 5000 then D else s.2.1) := ⟨_, rfl⟩
        refine ⟨(if D = F then 1 else 0, F, wI s.2.2 64 j (nI (f j))), ?_, p1.trs (Un.wI _ _ _ _ (by simp)), fun g hg' r hr h1 => ?_, ?_⟩
        · show X11_bars_L153 v1 (nI l) v3 (nI k) v6 (m + 1) s.1 s.2.1 (nI j) s.2.2 = X11_bars_L153 v1 (nI l) v3 (nI k) v6 m (if D = F then 1 else 0) F (nI (j + 1)) (wI s.2.2 64 j (nI (f j)))
          refine (bd (rooms_ok hms)).trans ?_
          refine (if_neg (mnle hw hj)).trans ?_
          refine (if_neg (by rw [q1]; decide)).trans ?_
          rw [if_pos (b.2.mpr hb), if_neg h3]
          have el : ldA s.2.2 64 (nI j) = some (nI (f j)) := (ldA_s s.2.2 64 j rfl rfl (by show _ < 8; omega)).trans (congrArg some (p2 f rfl j hj hb))
          have hmt : HM (wI s.2.2 64 j (nI (f j))) 61 0 62 0 A := hms.un (Un.wI _ _ _ _ (L := [64]) (by simp)) (by decide) (by decide)
          rw [el]
          have e6 : (((some (nI (f j))).bind fun x67 => some x67).bind fun x50 => (stA s.2.2 64 (nI j) x50).bind fun S53 => (X11_wireOf S53 (nI j) (nI k)).bind fun x56 => (ldA S53 64 (nI j)).bind fun x57 => (if s.2.1 = 5000 then some (x56 - x57) else some s.2.1).bind fun x60 => (if (x56 - x57) = x60 then some (1 : Int32) else some 0).bind fun x64 => some (x64, x60, S53)) = some (if D = F then 1 else 0, F, wI s.2.2 64 j (nI (f j))) := by
            refine (bd (rfl : ((some (nI (f j))).bind fun x67 => some x67) = some (nI (f j)))).trans ?_
            refine (bd (stA_s s.2.2 64 j _ rfl rfl (by show _ < 8; omega))).trans ?_
            refine (bd (wiro hmt (by omega) hk)).trans ?_
            refine (bd ((ldA_s _ 64 j rfl rfl (by show _ < 8; omega)).trans (congrArg some (rI_wI_s _ _ _ _)))).trans ?_
            rw [← hD, some_if, ← hF]
            refine (bd (rfl : some F = some F)).trans ?_
            rw [some_if]
            rfl
          refine (bd e6).trans ?_
          rw [nI_1]
        · cases hg'
          rw [rI_wI]
          by_cases hrj : r = j
          · rw [if_pos ⟨rfl, hrj⟩, hrj]
          · rw [if_neg (fun z => hrj z.2)]
            exact p2 f rfl r hr h1
        · have hD5 : ¬ D = 5000 := by rw [hD]; exact d5000 hwj hfj
          rcases q2 with ⟨z1, z2⟩ | ⟨z1, zE, z2⟩
          · have hFD : F = D := by rw [hF, if_pos z1]
            left
            refine ⟨if_pos hFD.symm, Or.inr ⟨by rw [hFD]; exact hD5, ⟨j, by omega, hb⟩, fun r hr h1 => ?_⟩⟩
            by_cases hrj : r = j
            · rw [hrj, hFD, hD]
            · exact absurd h1 (z2 r (by omega))
          · have hFs : F = s.2.1 := by rw [hF, if_neg z1]
            by_cases hDF : D = F
            · left
              refine ⟨if_pos hDF, Or.inr ⟨by rw [← hDF]; exact hD5, ⟨j, by omega, hb⟩, fun r hr h1 => ?_⟩⟩
              by_cases hrj : r = j
              · show _ = F
                rw [hrj, ← hDF, hD]
              · show _ = F
                rw [hFs]
                exact z2 r (by omega) h1
            · right
              refine ⟨if_neg hDF, ?_⟩
              obtain ⟨r, hr, h1⟩ := zE
              refine ⟨j, r, hj, by omega, hb, h1, fun z => hDF ?_⟩
              rw [hD, z, z2 r hr h1, hFs]
      · refine ⟨s, ?_, p1, p2, Or.inl ⟨q1, ?_⟩⟩
        · show X11_bars_L153 v1 (nI l) v3 (nI k) v6 (m + 1) s.1 s.2.1 (nI j) s.2.2 = X11_bars_L153 v1 (nI l) v3 (nI k) v6 m s.1 s.2.1 (nI (j + 1)) s.2.2
          refine (bd (rooms_ok hms)).trans ?_
          refine (if_neg (mnle hw hj)).trans ?_
          refine (if_neg (by rw [q1]; decide)).trans ?_
          rw [if_neg (fun z => hb (b.2.mp z)), ← nI_1]
          rfl
        · rcases q2 with ⟨z1, z2⟩ | ⟨z1, ⟨x, x1, x2⟩, z2⟩
          · refine Or.inl ⟨z1, fun r hr h1 => ?_⟩
            by_cases hrj : r = j
            · rw [hrj] at h1; exact hb h1
            · exact z2 r (by omega) h1
          · refine Or.inr ⟨z1, ⟨x, by omega, x2⟩, fun r hr h1 => ?_⟩
            by_cases hrj : r = j
            · rw [hrj] at h1; exact absurd h1 hb
            · exact z2 r (by omega) h1
    · left
      refine ⟨(s.1, s.2.2), ?_, p1, p2, Or.inr ⟨q1, q2⟩⟩
      refine (bd (rooms_ok hms)).trans ?_
      refine (if_neg (mnle hw hj)).trans ?_
      exact if_pos q1) A.n FU 0 (1, 5000, S) (by omega) (FU_lt (by omega)) ⟨Un.rf _ _, hf, Or.inl ⟨rfl, Or.inl ⟨rfl, fun r hr => absurd hr (Nat.not_lt_zero r)⟩⟩⟩
  have ht : X11_bars_L153 v1 (nI l) v3 (nI k) v6 FU 1 5000 0 S = some t := ht
  refine ⟨t.2, ?_, e1, e2⟩
  obtain ⟨g1, r0, g2, g3, g4⟩ := hg
  have hw0 := hw.2.2.1 r0 k (by omega) hk
  rcases e3 with ⟨q1, q2⟩ | ⟨q1, r, r', c1, c2, c3, c4, c5⟩
  · have key : ∀ r, r < A.n → l.testBit r = true → A.wire r k = A.wire r0 k + f r := fun r hr hb => by
      have hwr := hw.2.2.1 r k (by omega) hk
      have hfr := g1 r hr hb
      have := congrArg Int32.toInt (q2 r r0 hr g2 hb g3)
      rw [pk_sub_toInt (by omega) (by omega), pk_sub_toInt (by omega) (by omega), g4] at this
      omega
    have hs : sh A l k = A.wire r0 k := by
      have h1 : sh A l k ≤ A.wire r0 k := mnw_at l.testBit (wk A k) 400 g3 A.n g2
      rcases mnw_has l.testBit (wk A k) 400 A.n with h | ⟨x, y1, y2, y3⟩
      · have h : sh A l k = 400 := h
        omega
      · have y3 : sh A l k = A.wire x k := y3
        have := key x y1 y2
        omega
    rw [ht, if_pos (agree_iff.mpr (fun r hr hb => by rw [hs]; exact key r hr hb)), ← q1]
  · rw [ht, if_neg, ← q1]
    intro z
    have z := agree_iff.mp z
    apply c5
    rw [z r c1 c3, z r' c2 c4, pk_sub (by omega), pk_sub (by omega), Nat.add_sub_cancel, Nat.add_sub_cancel]
end TM
