/-! the times, by the class and by the reference -/
section SI
variable {S : St} {A : Ch}
theorem valv (hx : HX S 1 A) (hw : Wf A) {r w : Nat} (hr1 : r < A.n) (hw6 : w < 6) : X6_value S (nI r) (nI w) = some (nI (A.val r w)) := by
  have hn := hw.1
  exact (value_ok (by omega) hw6).trans (congrArg some (hx.2.1 r w hr1 hw6))
theorem ofv (hm : HM S 61 0 62 0 A) (hw : Wf A) {r w : Nat} (hr1 : r < A.n) (hw6 : w < 6) : X11_of S (nI r) (nI w) = some (nI (A.val r w)) := by
  have hn := hw.1
  have h := hm.2.1 r w hr1 hw6
  rw [show 0 + 8 + 6 * r + w = 8 + 6 * r + w by omega] at h
  exact (of_ok (by omega) hw6).trans (congrArg some h)
theorem kd_eq (hw : Wf A) {r : Nat} (hr1 : r < A.n) (c : Nat) (hc : c < 100) : (nI (A.val r 0) = nI c ↔ A.val r 0 = c) := by
  have : A.val r 0 ≤ 5 := hw.2.1 r 0 hr1 (by omega)
  exact nI_eq (by omega) (by omega)
theorem dv100 (x : Int32) : dvO x 100 = some (x / 100) := if_neg (by decide)
theorem timeAt_ok (hx : HX S 1 A) (hw : Wf A) {same r q d : Nat} (hd : d < 40) (hsm : same ≤ 400) (hr1 : r < A.n) (hs : A.val r 0 < 4) (hq : q = 25 ∨ q = 26) (h1 : rR S 24 1 = q) (ht : ∀ o, o < A.n → A.val o 0 < 4 → rI S q o = tm A same d o) (hl : Lr A same S r A.n) : X0_timeAt S (nI r) (nI (d + 1)) = some (tm A same (d + 1) r) := by
  have hn := hw.1
  have ep : rI S 2 1 = nI A.pace := hx.1.2.1
  have es : tm A same (d + 1) r = if A.val r 0 = 1 then nI (d + 1) * nI A.pace else if A.val r 0 = 2 then nI (d + 1) * nI A.pace - nI (A.val r 3) else if tm A same d r < nxX A same (tm A same d) r then nxX A same (tm A same d) r else tm A same d r + 1 := rfl
  unfold X0_timeAt
  refine (bd (valv hx hw hr1 (w := 0) (by omega))).trans ?_
  rw [es, ep]
  by_cases k1 : A.val r 0 = 1
  · rw [if_pos k1]
    exact if_pos ((kd_eq hw hr1 1 (by omega)).mpr k1)
  · rw [if_neg k1]
    refine (if_neg (fun z => k1 ((kd_eq hw hr1 1 (by omega)).mp z))).trans ?_
    by_cases k2 : A.val r 0 = 2
    · rw [if_pos k2]
      refine (if_pos ((kd_eq hw hr1 2 (by omega)).mpr k2)).trans ?_
      exact bd (valv hx hw hr1 (w := 3) (by omega))
    · rw [if_neg k2]
      refine (if_neg (fun z => k2 ((kd_eq hw hr1 2 (by omega)).mp z))).trans ?_
      rw [h1]
      refine (bd ((ldA_s S q r (w25 hq).1 rfl (by rw [(w25 hq).2]; omega)).trans (congrArg some (ht r hr1 hs)))).trans ?_
      have eg : (if nI (A.val r 0) = 3 then (X6_value S (nI r) 4).bind fun x20 => some x20 else some (0 : Int32)) = some (gs A r) := by
        unfold gs
        by_cases k3 : A.val r 0 = 3
        · rw [if_pos k3]
          refine (if_pos ((kd_eq hw hr1 3 (by omega)).mpr k3)).trans ?_
          exact bd (valv hx hw hr1 (w := 4) (by omega))
        · rw [if_neg k3]
          exact if_neg (fun z => k3 ((kd_eq hw hr1 3 (by omega)).mp z))
      refine (bd eg).trans ?_
      refine (bd (meanLag_ok hx hw hr1 hs hq h1 (tm A same d) ht hl)).trans ?_
      refine (bd (valv hx hw hr1 (w := 2) (by omega))).trans ?_
      refine (bd (dv100 _)).trans ?_
      refine (bd (valv hx hw hr1 (w := 1) (by omega))).trans ?_
      congr 1
      show (if tm A same d r + 1 < nxX A same (tm A same d) r then nxX A same (tm A same d) r else tm A same d r + 1) = _
      have own := tm_b hw hsm d (by omega) r hr1 hs
      have e1 : (1 : Int32).toInt = 1 := rfl
      have e2 : (tm A same d r + 1).toInt = (tm A same d r).toInt + 1 := by rw [addI (by omega) (by omega), e1]
      by_cases c1 : tm A same d r < nxX A same (tm A same d) r
      · rw [if_pos c1]
        have c1' := Int32.lt_iff_toInt_lt.mp c1
        by_cases c2 : tm A same d r + 1 < nxX A same (tm A same d) r
        · rw [if_pos c2]
        · rw [if_neg c2]
          have c2' : ¬ (tm A same d r).toInt + 1 < (nxX A same (tm A same d) r).toInt := fun z => c2 (Int32.lt_iff_toInt_lt.mpr (by omega))
          exact Int32.toInt_inj.mp (by omega)
      · rw [if_neg c1]
        have c1' : ¬ (tm A same d r).toInt < (nxX A same (tm A same d) r).toInt := fun z => c1 (Int32.lt_iff_toInt_lt.mpr z)
        exact if_neg (fun z => by have := Int32.lt_iff_toInt_lt.mp z; omega)
theorem sing1 (hx : HX S 1 A) (hw : Wf A) {p : Nat} (hp : p = 25 ∨ p = 26) (h0 : rR S 24 0 = p) (same : Nat) (v2 : Int32) : ∃ T, X0_singTo_L2 v2 FU 0 S = some T ∧ Un [p] S T ∧ ∀ r, r < A.n → rI T p r = tm A same 0 r := by
  have hn := hw.1
  obtain ⟨T, hT, q⟩ := forG (fun m k (s : St) => X0_singTo_L2 v2 m (nI k) s) A.n (fun k s => Un [p] S s ∧ ∀ r, r < k → rI s p r = tm A same 0 r) (fun s => Un [p] S s ∧ ∀ r, r < A.n → rI s p r = tm A same 0 r) (fun m s hp' => ⟨s, if_pos (by rw [(hp'.1 2 (by simp; omega)).1]; exact xle hx hw), hp'⟩) (fun m k s hk hp' => by
    obtain ⟨p1, p2⟩ := hp'
    have hxs : HX s 1 A := hx.un p1 (fun k hk => by simp <;> omega)
    right
    refine ⟨wI s p k (tm A same 0 k), ?_, p1.trs (Un.wI _ _ _ _ (by simp)), fun r hr => ?_⟩
    · show X0_singTo_L2 v2 (m + 1) (nI k) s = X0_singTo_L2 v2 m (nI (k + 1)) _
      refine (if_neg (xnle hxs hw hk)).trans ?_
      refine (bd (valv hxs hw hk (w := 0) (by omega))).trans ?_
      have e1 : (if nI (A.val k 0) = 2 then (X6_value s (nI k) 3).bind fun x11 => some (-x11) else some (0 : Int32)) = some (tm A same 0 k) := by
        show _ = some (if A.val k 0 = 2 then -nI (A.val k 3) else 0)
        by_cases k2 : A.val k 0 = 2
        · rw [if_pos k2]
          refine (if_pos ((kd_eq hw hk 2 (by omega)).mpr k2)).trans ?_
          exact bd (valv hxs hw hk (w := 3) (by omega))
        · rw [if_neg k2]
          exact if_neg (fun z => k2 ((kd_eq hw hk 2 (by omega)).mp z))
      refine (bd e1).trans ?_
      rw [(p1 24 (by simp; omega)).2.2, h0]
      refine (bd (stA_s s p k _ (w25 hp).1 rfl (by rw [(w25 hp).2]; omega))).trans ?_
      rw [nI_1]
    · rw [rI_wI]
      by_cases hrk : r = k
      · rw [if_pos ⟨rfl, hrk⟩, hrk]
      · rw [if_neg (fun z => hrk z.2)]
        exact p2 r (by omega)) A.n FU 0 S (by omega) (FU_lt (by omega)) ⟨Un.rf _ _, fun r hr => absurd hr (Nat.not_lt_zero r)⟩
  exact ⟨T, hT, q⟩
theorem Lr.un {same r k : Nat} {S T : St} {L : List Nat} (h : Lr A same S r k) (hu : Un L S T) (h1 : 27 ∉ L) (h2 : 28 ∉ L) (h3 : 29 ∉ L) : Lr A same T r k := by
  obtain ⟨g1, g2, g3⟩ := h
  exact ⟨((hu 28 h2).1 _).trans g1, fun j hj hjh => ((hu 27 h1).1 _).trans (g2 j hj hjh), ((hu 29 h3).1 _).trans g3⟩
theorem sing2 (hx : HX S 1 A) (hw : Wf A) {same d p q : Nat} (hd : d < 40) (hsm : same ≤ 400) (hp : p = 25 ∨ p = 26) (hq : q = 25 ∨ q = 26) (hpq : p ≠ q) (h0 : rR S 24 0 = p) (h1 : rR S 24 1 = q) (hk : ∀ r, r < A.n → A.val r 0 < 4 → rI S q r = tm A same d r) (hl : ∀ r, r < A.n → Lr A same S r A.n) (v2 : Int32) : ∃ T, X0_singTo_L73 v2 (nI (d + 1)) FU 0 S = some T ∧ Un [p] S T ∧ ∀ r, r < A.n → A.val r 0 < 4 → rI T p r = tm A same (d + 1) r := by
  have hn := hw.1
  obtain ⟨T, hT, q⟩ := forG (fun m k (s : St) => X0_singTo_L73 v2 (nI (d + 1)) m (nI k) s) A.n (fun k s => Un [p] S s ∧ ∀ r, r < k → A.val r 0 < 4 → rI s p r = tm A same (d + 1) r) (fun s => Un [p] S s ∧ ∀ r, r < A.n → A.val r 0 < 4 → rI s p r = tm A same (d + 1) r) (fun m s hp' => ⟨s, if_pos (by rw [(hp'.1 2 (by simp; omega)).1]; exact xle hx hw), hp'⟩) (fun m k s hk2 hp' => by
    obtain ⟨p1, p2⟩ := hp'
    right
    have e0 : rR s 24 0 = p := ((p1 24 (by simp; omega)).2.2 0).trans h0
    have e1 : rR s 24 1 = q := ((p1 24 (by simp; omega)).2.2 1).trans h1
    have eq : ∀ r, r < A.n → A.val r 0 < 4 → rI s q r = tm A same d r := fun r hr hsr => ((p1 q (by simp; omega)).1 r).trans (hk r hr hsr)
    have hxs : HX s 1 A := hx.un p1 (fun k hk => by simp <;> omega)
    refine ⟨wI s p k (if A.val k 0 < 4 then tm A same (d + 1) k else 0), ?_, p1.trs (Un.wI _ _ _ _ (by simp)), fun r hr hsr => ?_⟩
    · show X0_singTo_L73 v2 (nI (d + 1)) (m + 1) (nI k) s = X0_singTo_L73 v2 (nI (d + 1)) m (nI (k + 1)) _
      refine (if_neg (xnle hxs hw hk2)).trans ?_
      refine (bd (sings_ok hxs hw hk2)).trans ?_
      have e3 : (if (if A.val k 0 < 4 then (1 : Int32) else 0) = 0 then some (0 : Int32) else (X0_timeAt s (nI k) (nI (d + 1))).bind fun x29 => some x29) = some (if A.val k 0 < 4 then tm A same (d + 1) k else 0) := by
        by_cases hsk : A.val k 0 < 4
        · rw [if_pos hsk, if_pos hsk]
          refine (if_neg (by decide)).trans ?_
          exact bd (timeAt_ok hxs hw hd hsm hk2 hsk hq e1 eq ((hl k hk2).un p1 (by simp; omega) (by simp; omega) (by simp; omega)))
        · rw [if_neg hsk, if_neg hsk]
          exact if_pos rfl
      refine (bd e3).trans ?_
      rw [e0]
      refine (bd (stA_s s p k _ (w25 hp).1 rfl (by rw [(w25 hp).2]; omega))).trans ?_
      rw [nI_1]
    · rw [rI_wI]
      by_cases hrk : r = k
      · rw [if_pos ⟨rfl, hrk⟩, hrk, if_pos (by rw [← hrk]; exact hsr)]
      · rw [if_neg (fun z => hrk z.2)]
        exact p2 r (by omega) hsr) A.n FU 0 S (by omega) (FU_lt (by omega)) ⟨Un.rf _ _, fun r hr => absurd hr (Nat.not_lt_zero r)⟩
  exact ⟨T, hT, q⟩
/-- what the class's singTo leaves -/
theorem singTo_ok (hx : HX S 1 A) (hw : Wf A) (hrf : Rf S) {same c : Nat} (hc : c ≤ 40) (hsm : same ≤ 400) (hl : ∀ r, r < A.n → Lr A same S r A.n) : ∃ T p q, X0_singTo S (nI c) = some T ∧ Un [24, 25, 26] S T ∧ Rf T ∧ (p = 25 ∨ p = 26) ∧ (q = 25 ∨ q = 26) ∧ rR T 24 0 = p ∧ rR T 24 1 = q ∧ (∀ r, r < A.n → A.val r 0 < 4 → rI T p r = tm A same c r) ∧ (1 ≤ c → ∀ r, r < A.n → A.val r 0 < 4 → rI T q r = tm A same (c - 1) r) := by
  obtain ⟨p, q, hp, hq, hpq, h0, h1⟩ : ∃ p q, (p = 25 ∨ p = 26) ∧ (q = 25 ∨ q = 26) ∧ p ≠ q ∧ rR S 24 0 = p ∧ rR S 24 1 = q := by
    rcases hrf.1 with ⟨a, b⟩ | ⟨a, b⟩
    · exact ⟨25, 26, by omega, by omega, by omega, a, b⟩
    · exact ⟨26, 25, by omega, by omega, by omega, a, b⟩
  obtain ⟨S1, s1, s2, s3⟩ := sing1 hx hw hp h0 same (nI c)
  have u1 : Un [24, 25, 26] S S1 := s2.mono (fun x hx => by simp at hx ⊢; omega)
  obtain ⟨T, hT, t1, p', q', t2, t3, t4, t5, t6, t7, t8⟩ := forG (fun m k (s : St) => X0_singTo_L45 (nI c) m (nI (k + 1)) s) c (fun k s => Un [24, 25, 26] S s ∧ ∃ p q, (p = 25 ∨ p = 26) ∧ (q = 25 ∨ q = 26) ∧ p ≠ q ∧ rR s 24 0 = p ∧ rR s 24 1 = q ∧ (∀ r, r < A.n → A.val r 0 < 4 → rI s p r = tm A same k r) ∧ (1 ≤ k → ∀ r, r < A.n → A.val r 0 < 4 → rI s q r = tm A same (k - 1) r)) (fun s => Un [24, 25, 26] S s ∧ ∃ p q, (p = 25 ∨ p = 26) ∧ (q = 25 ∨ q = 26) ∧ p ≠ q ∧ rR s 24 0 = p ∧ rR s 24 1 = q ∧ (∀ r, r < A.n → A.val r 0 < 4 → rI s p r = tm A same c r) ∧ (1 ≤ c → ∀ r, r < A.n → A.val r 0 < 4 → rI s q r = tm A same (c - 1) r)) (fun m s hp' => ⟨s, if_pos (nI_lt (by omega) (by omega)), hp'⟩) (fun m k s hk hp' => by
    obtain ⟨z1, p, q, z2, z3, z4, z5, z6, z7, -⟩ := hp'
    right
    obtain ⟨W, hW⟩ : ∃ W, W = wR (wR s 24 1 p) 24 0 q := ⟨_, rfl⟩
    have w0 : rR W 24 0 = q := by rw [hW, rR_wR, if_pos ⟨rfl, rfl⟩]
    have w1 : rR W 24 1 = p := by rw [hW, rR_wR, if_neg (by omega), rR_wR, if_pos ⟨rfl, rfl⟩]
    have wu : Un [24] s W := by rw [hW]; exact (Un.wR _ _ _ _ (by simp)).trs (Un.wR _ _ _ _ (by simp))
    have zW : Un [24, 25, 26] S W := z1.trs (wu.mono (by simp))
    have hxW : HX W 1 A := hx.un zW (fun k hk => by simp <;> omega)
    have hzp : ∀ r, r < A.n → A.val r 0 < 4 → rI W p r = tm A same k r := fun r hr hsr => ((wu p (by simp; omega)).1 r).trans (z7 r hr hsr)
    obtain ⟨T, a1, a2, a3⟩ := sing2 (S := W) hxW hw (same := same) (d := k) (p := q) (q := p) (by omega) hsm z3 z2 (Ne.symm z4) w0 w1 hzp (fun r hr => (hl r hr).un zW (by decide) (by decide) (by decide)) (nI c)
    refine ⟨T, ?_, ?_, q, p, z3, z2, Ne.symm z4, ?_, ?_, a3, fun _ r hr hsr => ?_⟩
    · show X0_singTo_L45 (nI c) (m + 1) (nI (k + 1)) s = X0_singTo_L45 (nI c) m (nI (k + 1 + 1)) T
      refine (if_neg (fun z => by have := (nI_ltI (by omega) (by omega)).mp z; omega)).trans ?_
      rw [z5, z6]
      refine (bd (rfl : stR s 24 1 p = some (wR s 24 1 p))).trans ?_
      refine (bd (congrArg some hW.symm : stR (wR s 24 1 p) 24 0 q = some W)).trans ?_
      refine (bd a1).trans ?_
      rw [nI_1]
    · exact zW.trs (a2.mono (fun x hx => by simp at hx ⊢; omega))
    · exact ((a2 24 (by simp; omega)).2.2 0).trans w0
    · exact ((a2 24 (by simp; omega)).2.2 1).trans w1
    · rw [Nat.add_sub_cancel]
      exact ((a2 p (by simp; omega)).1 r).trans (hzp r hr hsr)) c FU 0 S1 (by omega) (FU_lt (by omega)) ⟨u1, p, q, hp, hq, hpq, ((s2 24 (by simp; omega)).2.2 0).trans h0, ((s2 24 (by simp; omega)).2.2 1).trans h1, fun r hr _ => s3 r hr, fun z => by omega⟩
  have hT : X0_singTo_L45 (nI c) FU 1 S1 = some T := hT
  refine ⟨T, p', q', ?_, t1, ?_, t2, t3, t5, t6, t7, t8⟩
  · unfold X0_singTo
    refine (bd s1).trans ?_
    exact bd hT
  · refine ⟨?_, ?_⟩
    · rw [t5, t6]
      omega
    · rw [(t1 32 (by decide)).2.2, (t1 32 (by decide)).2.2]
      exact hrf.2
end SI
section LB
variable {S : St} {A : Ch}
theorem mpull (hm : HM S 61 0 62 0 A) (hw : Wf A) {r k same : Nat} (hr1 : r < A.n) (hk : k ≤ 40) (hsm : same ≤ 400) : X11_pull S (nI r) (nI k) (nI same) = some (lag A same (fun o => rI S 63 (8 * k + o)) r) := by
  have hn := hw.1
  have hcb := cb_le (hr A r) A.n
  unfold X11_pull
  refine (bd (ofv hm hw hr1 (w := 0) (by omega))).trans ?_
  have eg : (if nI (A.val r 0) = 3 then (X11_of S (nI r) 4).bind fun x39 => some x39 else some (0 : Int32)) = some (gs A r) := by
    unfold gs
    by_cases k3 : A.val r 0 = 3
    · rw [if_pos k3]
      refine (if_pos ((kd_eq hw hr1 3 (by omega)).mpr k3)).trans ?_
      exact bd (ofv hm hw hr1 (w := 4) (by omega))
    · rw [if_neg k3]
      exact if_neg (fun z => k3 ((kd_eq hw hr1 3 (by omega)).mp z))
  refine (bd eg).trans ?_
  obtain ⟨t, ht, e⟩ := forG (fun m j (s : Int32 × Int32) => X11_pull_L31 S (nI r) (nI k) (nI same) (gs A r) m s.1 s.2 (nI j)) A.n (fun j s => s = (nI (cb (hr A r) j), MS A same (fun o => rI S 63 (8 * k + o)) r j)) (fun t => t = (nI (cb (hr A r) A.n), MS A same (fun o => rI S 63 (8 * k + o)) r A.n)) (fun m s hp => ⟨(s.1, s.2), (bd (rooms_ok hm)).trans (if_pos (mle hw)), hp⟩) (fun m j s hj hp => by
    right
    refine ⟨(nI (cb (hr A r) (j + 1)), MS A same (fun o => rI S 63 (8 * k + o)) r (j + 1)), ?_, rfl⟩
    show X11_pull_L31 S (nI r) (nI k) (nI same) (gs A r) (m + 1) s.1 s.2 (nI j) = X11_pull_L31 S (nI r) (nI k) (nI same) (gs A r) m (nI (cb (hr A r) (j + 1))) (MS A same (fun o => rI S 63 (8 * k + o)) r (j + 1)) (nI (j + 1))
    rw [hp]
    refine (bd (rooms_ok hm)).trans ?_
    refine (if_neg (mnle hw hj)).trans ?_
    have em : MS A same (fun o => rI S 63 (8 * k + o)) r (j + 1) = if hr A r j = true then MS A same (fun o => rI S 63 (8 * k + o)) r j + (((rI S 63 (8 * k + j) + tk A same j r) - gs A r) - rI S 63 (8 * k + r)) else MS A same (fun o => rI S 63 (8 * k + o)) r j := by
      show fo _ 0 (j + 1) 0 = _
      rw [fo_succ, Nat.zero_add]
      rfl
    rw [← nI_1 j]
    by_cases hjr : j = r
    · have hh : ¬ hr A r j = true := fun z => by
        have := (hr_iff.mp z).2
        rw [hjr, hw.2.2.2.1 r (by omega)] at this
        omega
      rw [em, if_neg hh, cb_n hh]
      exact bd (if_pos (by rw [hjr]))
    · rw [if_neg (fun z => hjr ((nI_eq (by omega) (by omega)).mp z))]
      by_cases hsj : A.val j 0 < 4
      · rw [msings_ok hm hw hj, if_pos hsj]
        by_cases h0 : A.wire j r = 0
        · have hh : ¬ hr A r j = true := fun z => by
            have := (hr_iff.mp z).2
            omega
          rw [em, if_neg hh, cb_n hh, wiro hm (by omega) (by omega)]
          exact bd (if_pos ((wire0 hw (by omega) (by omega)).2.mpr h0))
        · have hh : hr A r j = true := hr_iff.mpr ⟨hsj, by omega⟩
          rw [em, if_pos hh, cb_y hh, wiro hm (by omega) (by omega)]
          have et : (if nI same ≤ 0 then (some (nI (A.wire j r))).bind fun x30 => some x30 else some (nI same)) = some (tk A same j r) := by
            unfold tk
            by_cases hs0 : same = 0
            · rw [if_pos hs0]
              exact if_pos ((n0 (by omega)).2.mpr hs0)
            · rw [if_neg hs0]
              exact if_neg (fun z => hs0 ((n0 (by omega)).2.mp z))
          have e5 : (if nI (A.wire j r) ≤ 0 then some (nI (cb (hr A r) j), MS A same (fun o => rI S 63 (8 * k + o)) r j) else (if nI same ≤ 0 then (some (nI (A.wire j r))).bind fun x30 => some x30 else some (nI same)).bind fun x22 => (ldA S 63 ((8 * nI k) + nI j)).bind fun x25 => (ldA S 63 ((8 * nI k) + nI r)).bind fun x27 => some ((nI (cb (hr A r) j) + 1), (MS A same (fun o => rI S 63 (8 * k + o)) r j + (((x25 + x22) - gs A r) - x27)))) = some (nI (cb (hr A r) j + 1), MS A same (fun o => rI S 63 (8 * k + o)) r j + (((rI S 63 (8 * k + j) + tk A same j r) - gs A r) - rI S 63 (8 * k + r))) := by
            refine (if_neg (fun z => h0 ((wire0 hw (by omega) (by omega)).2.mp z))).trans ?_
            refine (bd et).trans ?_
            refine (bd (ldA_s S 63 (8 * k + j) rfl (ix2' 8 k j) (by show _ < 328; omega))).trans ?_
            refine (bd (ldA_s S 63 (8 * k + r) rfl (ix2' 8 k r) (by show _ < 328; omega))).trans ?_
            rw [nI_1]
          exact bd e5
      · have hh : ¬ hr A r j = true := fun z => hsj (hr_iff.mp z).1
        rw [em, if_neg hh, cb_n hh, msings_ok hm hw hj, if_neg hsj]
        rfl) A.n FU 0 (0, 0) (by omega) (FU_lt (by omega)) rfl
  have ht : X11_pull_L31 S (nI r) (nI k) (nI same) (gs A r) FU 0 0 0 = some t := ht
  rw [ht, e]
  show (if nI (cb (hr A r) A.n) = 0 then some 0 else (dvO (MS A same (fun o => rI S 63 (8 * k + o)) r A.n) (nI (cb (hr A r) A.n))).bind fun x35 => some x35) = _
  unfold lag
  by_cases h0 : cb (hr A r) A.n = 0
  · rw [if_pos h0]
    exact if_pos ((n0 (by omega)).1.mpr h0)
  · rw [if_neg h0]
    have hn0 : ¬ nI (cb (hr A r) A.n) = 0 := fun z => h0 ((n0 (by omega)).1.mp z)
    refine (if_neg hn0).trans ?_
    unfold dvO
    rw [if_neg hn0]
    rfl
theorem lag_cong {same r : Nat} {t t' : Nat → Int32} (h : ∀ o, o < A.n → A.val o 0 < 4 → t o = t' o) (hr1 : t r = t' r) : lag A same t r = lag A same t' r := by
  unfold lag MS
  rw [hr1]
  congr 2
  refine fo_cong A.n 0 0 0 (fun j s hj => ?_)
  rw [Nat.zero_add]
  by_cases hh : hr A r j = true
  · rw [if_pos hh, if_pos hh, h j hj (hr_iff.mp hh).1]
  · rw [if_neg hh, if_neg hh]
theorem mlb1 (hm : HM S 61 0 62 0 A) (hw : Wf A) (same : Nat) (v1 v2 v3 : Int32) : ∃ T, X11_laysBeats_L12 v1 v2 v3 FU 0 S = some T ∧ Un [63] S T ∧ ∀ r, r < A.n → rI T 63 r = tm A same 0 r := by
  have hn := hw.1
  obtain ⟨T, hT, q⟩ := forG (fun m k (s : St) => X11_laysBeats_L12 v1 v2 v3 m (nI k) s) A.n (fun k s => Un [63] S s ∧ ∀ r, r < k → rI s 63 r = tm A same 0 r) (fun s => Un [63] S s ∧ ∀ r, r < A.n → rI s 63 r = tm A same 0 r) (fun m s hp' => ⟨s, (bd (rooms_ok (hm.un hp'.1 (by decide) (by decide)))).trans (if_pos (mle hw)), hp'⟩) (fun m k s hk hp' => by
    obtain ⟨p1, p2⟩ := hp'
    have hms := hm.un p1 (by decide) (by decide)
    right
    refine ⟨wI s 63 k (tm A same 0 k), ?_, p1.trs (Un.wI _ _ _ _ (by simp)), fun r hr => ?_⟩
    · show X11_laysBeats_L12 v1 v2 v3 (m + 1) (nI k) s = X11_laysBeats_L12 v1 v2 v3 m (nI (k + 1)) _
      refine (bd (rooms_ok hms)).trans ?_
      refine (if_neg (mnle hw hk)).trans ?_
      refine (bd (ofv hms hw hk (w := 0) (by omega))).trans ?_
      have e1 : (if nI (A.val k 0) = 2 then (X11_of s (nI k) 3).bind fun x15 => some (-x15) else some (0 : Int32)) = some (tm A same 0 k) := by
        show _ = some (if A.val k 0 = 2 then -nI (A.val k 3) else 0)
        by_cases k2 : A.val k 0 = 2
        · rw [if_pos k2]
          refine (if_pos ((kd_eq hw hk 2 (by omega)).mpr k2)).trans ?_
          exact bd (ofv hms hw hk (w := 3) (by omega))
        · rw [if_neg k2]
          exact if_neg (fun z => k2 ((kd_eq hw hk 2 (by omega)).mp z))
      refine (bd e1).trans ?_
      refine (bd (stA_s s 63 k _ rfl rfl (by show _ < 328; omega))).trans ?_
      rw [nI_1]
    · rw [rI_wI]
      by_cases hrk : r = k
      · rw [if_pos ⟨rfl, hrk⟩, hrk]
      · rw [if_neg (fun z => hrk z.2)]
        exact p2 r (by omega)) A.n FU 0 S (by omega) (FU_lt (by omega)) ⟨Un.rf _ _, fun r hr => absurd hr (Nat.not_lt_zero r)⟩
  exact ⟨T, hT, q⟩
theorem mlb2 (hm : HM S 61 0 62 0 A) (hw : Wf A) {same d : Nat} (hd : d < 40) (hsm : same ≤ 400) (hk : ∀ r, r < A.n → A.val r 0 < 4 → rI S 63 (8 * d + r) = tm A same d r) (v1 : Int32) : ∃ T, X11_laysBeats_L69 v1 (nI same) (nI A.pace) (nI (d + 1)) FU 0 S = some T ∧ Un [63] S T ∧ (∀ x, x < 8 * (d + 1) → rI T 63 x = rI S 63 x) ∧ ∀ r, r < A.n → A.val r 0 < 4 → rI T 63 (8 * (d + 1) + r) = tm A same (d + 1) r := by
  have hn := hw.1
  obtain ⟨T, hT, q⟩ := forG (fun m k (s : St) => X11_laysBeats_L69 v1 (nI same) (nI A.pace) (nI (d + 1)) m (nI k) s) A.n (fun k s => Un [63] S s ∧ (∀ x, x < 8 * (d + 1) → rI s 63 x = rI S 63 x) ∧ ∀ r, r < k → A.val r 0 < 4 → rI s 63 (8 * (d + 1) + r) = tm A same (d + 1) r) (fun s => Un [63] S s ∧ (∀ x, x < 8 * (d + 1) → rI s 63 x = rI S 63 x) ∧ ∀ r, r < A.n → A.val r 0 < 4 → rI s 63 (8 * (d + 1) + r) = tm A same (d + 1) r) (fun m s hp' => ⟨s, (bd (rooms_ok (hm.un hp'.1 (by decide) (by decide)))).trans (if_pos (mle hw)), hp'⟩) (fun m k s hk2 hp' => by
    obtain ⟨p1, p2, p3⟩ := hp'
    have hms := hm.un p1 (by decide) (by decide)
    obtain ⟨t, ht⟩ : ∃ t : Nat → Int32, t = fun o => rI s 63 (8 * d + o) := ⟨_, rfl⟩
    obtain ⟨V, hV⟩ : ∃ V, V = (if A.val k 0 = 1 then nI (d + 1) * nI A.pace else if A.val k 0 = 2 then nI (d + 1) * nI A.pace - nI (A.val k 3) else if t k < nxX A same t k then nxX A same t k else t k + 1) := ⟨_, rfl⟩
    right
    refine ⟨wI s 63 (8 * (d + 1) + k) V, ?_, p1.trs (Un.wI _ _ _ _ (by simp)), fun x hx => ?_, fun r hr hsr => ?_⟩
    · show X11_laysBeats_L69 v1 (nI same) (nI A.pace) (nI (d + 1)) (m + 1) (nI k) s = X11_laysBeats_L69 v1 (nI same) (nI A.pace) (nI (d + 1)) m (nI (k + 1)) _
      refine (bd (rooms_ok hms)).trans ?_
      refine (if_neg (mnle hw hk2)).trans ?_
      refine (bd (ofv hms hw hk2 (w := 0) (by omega))).trans ?_
      rw [nI_pred]
      refine (bd (ldA_s s 63 (8 * d + k) rfl (ix2' 8 d k) (by show _ < 328; omega))).trans ?_
      refine (bd (ofv hms hw hk2 (w := 1) (by omega))).trans ?_
      refine (bd (ofv hms hw hk2 (w := 2) (by omega))).trans ?_
      refine (bd (mpull hms hw hk2 (k := d) (by omega) hsm)).trans ?_
      refine (bd (dv100 _)).trans ?_
      have e1 : (if (((rI s 63 (8 * d + k) + nI A.pace) + nI (A.val k 1)) + (nI (A.val k 2) * lag A same (fun o => rI s 63 (8 * d + o)) k) / 100) ≤ rI s 63 (8 * d + k) then some (rI s 63 (8 * d + k) + 1) else some (((rI s 63 (8 * d + k) + nI A.pace) + nI (A.val k 1)) + (nI (A.val k 2) * lag A same (fun o => rI s 63 (8 * d + o)) k) / 100)) = some (if t k < nxX A same t k then nxX A same t k else t k + 1) := by
        rw [ht]
        show (if nxX A same (fun o => rI s 63 (8 * d + o)) k ≤ rI s 63 (8 * d + k) then some (rI s 63 (8 * d + k) + 1) else some (nxX A same (fun o => rI s 63 (8 * d + o)) k)) = some (if rI s 63 (8 * d + k) < nxX A same (fun o => rI s 63 (8 * d + o)) k then nxX A same (fun o => rI s 63 (8 * d + o)) k else rI s 63 (8 * d + k) + 1)
        by_cases hc : nxX A same (fun o => rI s 63 (8 * d + o)) k ≤ rI s 63 (8 * d + k)
        · rw [if_pos hc, if_neg (fun z => by rw [Int32.lt_iff_toInt_lt] at z; rw [Int32.le_iff_toInt_le] at hc; omega)]
        · rw [if_neg hc, if_pos (by rw [Int32.le_iff_toInt_le] at hc; rw [Int32.lt_iff_toInt_lt]; omega)]
      refine (bd e1).trans ?_
      have e2 : (if nI (A.val k 0) = 1 then some (nI (d + 1) * nI A.pace) else if nI (A.val k 0) = 2 then (X11_of s (nI k) 3).bind fun x46 => some ((nI (d + 1) * nI A.pace) - x46) else some (if t k < nxX A same t k then nxX A same t k else t k + 1)) = some V := by
        rw [hV]
        by_cases k1 : A.val k 0 = 1
        · rw [if_pos k1]
          exact if_pos ((kd_eq hw hk2 1 (by omega)).mpr k1)
        · rw [if_neg k1]
          refine (if_neg (fun z => k1 ((kd_eq hw hk2 1 (by omega)).mp z))).trans ?_
          by_cases k2 : A.val k 0 = 2
          · rw [if_pos k2]
            refine (if_pos ((kd_eq hw hk2 2 (by omega)).mpr k2)).trans ?_
            exact bd (ofv hms hw hk2 (w := 3) (by omega))
          · rw [if_neg k2]
            exact if_neg (fun z => k2 ((kd_eq hw hk2 2 (by omega)).mp z))
      refine (bd e2).trans ?_
      refine (bd (stA_s s 63 (8 * (d + 1) + k) _ rfl (ix2' 8 (d + 1) k) (by show _ < 328; omega))).trans ?_
      rw [nI_1]
    · rw [rI_wI_k (by omega)]
      exact p2 x hx
    · rw [rI_wI]
      by_cases hrk : r = k
      · subst hrk
        rw [if_pos ⟨rfl, rfl⟩, hV]
        have htk : ∀ o, o < A.n → A.val o 0 < 4 → t o = tm A same d o := fun o ho hso => by
          rw [ht]
          exact (p2 _ (by omega)).trans (hk o ho hso)
        have hr : r < A.n := hk2
        have hl := lag_cong (A := A) (same := same) htk (htk r hr hsr)
        have hn' : nxX A same t r = nxX A same (tm A same d) r := by
          unfold nxX
          rw [hl, htk r hr hsr]
        rw [hn', htk r hr hsr]
        rfl
      · rw [if_neg (fun z => hrk (by omega))]
        exact p3 r (by omega) hsr) A.n FU 0 S (by omega) (FU_lt (by omega)) ⟨Un.rf _ _, fun _ _ => rfl, fun r hr => absurd hr (Nat.not_lt_zero r)⟩
  exact ⟨T, hT, q⟩
/-- what the reference's laysBeats leaves -/
theorem lays_ok (hm : HM S 61 0 62 0 A) (hw : Wf A) {same c : Nat} (hc : c ≤ 40) (hsm : same ≤ 400) : ∃ T, X11_laysBeats S (nI c) (nI same) = some T ∧ Un [63] S T ∧ (∀ d r, d ≤ c → r < A.n → A.val r 0 < 4 → rI T 63 (8 * d + r) = tm A same d r) := by
  obtain ⟨S1, s1, s2, s3⟩ := mlb1 hm hw same (nI c) (nI same) (nI A.pace)
  obtain ⟨T, hT, t1, t2⟩ := forG (fun m k (s : St) => X11_laysBeats_L60 (nI c) (nI same) (nI A.pace) m (nI (k + 1)) s) c (fun k s => Un [63] S s ∧ ∀ d r, d ≤ k → r < A.n → A.val r 0 < 4 → rI s 63 (8 * d + r) = tm A same d r) (fun s => Un [63] S s ∧ ∀ d r, d ≤ c → r < A.n → A.val r 0 < 4 → rI s 63 (8 * d + r) = tm A same d r) (fun m s hp' => ⟨s, if_pos (nI_lt (by omega) (by omega)), hp'⟩) (fun m k s hk hp' => by
    obtain ⟨z1, z2⟩ := hp'
    right
    obtain ⟨T, a1, a2, a3, a4⟩ := mlb2 (S := s) (hm.un z1 (by decide) (by decide)) hw (same := same) (d := k) (by omega) hsm (fun r hr hsr => z2 k r (Nat.le_refl k) hr hsr) (nI c)
    refine ⟨T, ?_, z1.trs a2, fun d r hd hr hsr => ?_⟩
    · show X11_laysBeats_L60 (nI c) (nI same) (nI A.pace) (m + 1) (nI (k + 1)) s = X11_laysBeats_L60 (nI c) (nI same) (nI A.pace) m (nI (k + 1 + 1)) T
      refine (if_neg (fun z => by have := (nI_ltI (by omega) (by omega)).mp z; omega)).trans ?_
      refine (bd a1).trans ?_
      rw [nI_1]
    · by_cases hdk : d = k + 1
      · rw [hdk]; exact a4 r hr hsr
      · have hn := hw.1
        rw [a3 _ (by omega)]
        exact z2 d r (by omega) hr hsr) c FU 0 S1 (by omega) (FU_lt (by omega)) ⟨s2, fun d r hd hr _ => by
      have hd : d = 0 := by omega
      rw [hd, Nat.mul_zero, Nat.zero_add]
      exact s3 r hr⟩
  have hT : X11_laysBeats_L60 (nI c) (nI same) (nI A.pace) FU 1 S1 = some T := hT
  refine ⟨T, ?_, t1, t2⟩
  unfold X11_laysBeats
  refine (bd ((ldA_s S 61 128 rfl rfl (by decide)).trans (congrArg some hm.1.2.1))).trans ?_
  refine (bd s1).trans ?_
  exact bd hT
end LB
