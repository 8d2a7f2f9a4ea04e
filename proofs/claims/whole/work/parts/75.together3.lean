section TN
variable {S : St} {A : Ch}
theorem mff (hw : Wf A) {e l : Nat} (he : e < 256) (hl : l < 256) (h0 : l ≠ 0) (hmm : ∃ r, r < A.n ∧ l.testBit r = true) : ∀ c m k mt T ld, k + c = A.n → c < m → mt ≤ k → (mt = 0 ↔ ld = none) → HM T 61 0 62 0 A → goodO A l ld → lnk A l 64 T ld → ∃ T', X11_bars_L5 (nI e) (nI l) m (nI mt) (nI k) T = some (outX (ff A e l c k ld).1 T') ∧ Un [64] T T' ∧ lnk A l 64 T' (ff A e l c k ld).2 := by
  have hn := hw.1
  have hl0 : ¬ nI l = 0 := fun z => h0 ((nI_eq (a := l) (b := 0) (by omega) (by omega)).mp z)
  intro c
  induction c with
  | zero =>
    intro m k mt T ld hk hm1 hmk hmt hm hg hf
    obtain ⟨m, rfl⟩ : ∃ n, m = n + 1 := ⟨m - 1, by omega⟩
    have hk : k = A.n := hk
    subst hk
    exact ⟨T, (bd (rooms_ok hm)).trans (if_pos (mle hw)), Un.rf _ _, hf⟩
  | succ c ih =>
    intro m k mt T ld hk hm1 hmk hmt hm hg hf
    obtain ⟨m, rfl⟩ : ∃ n, m = n + 1 := ⟨m - 1, by omega⟩
    have hkn : k < A.n := by omega
    have b := bit8 he (t := k) (by omega)
    rw [ff_s]
    by_cases hb : e.testBit k = true
    · rw [if_pos hb]
      have e0 : X11_bars_L5 (nI e) (nI l) (m + 1) (nI mt) (nI k) T = (X11_bars_L153 (nI e) (nI l) (nI mt) (nI k) (nI (mnw l.testBit (wk A k) 1000 A.n)) FU (if ¬ A.val k 0 = 5 ∧ reach A l k = true then 1 else 0) 5000 0 T).bind fun (x71, S72) => if x71 = 0 then some (.inr (nI k, S72)) else X11_bars_L5 (nI e) (nI l) m (nI (mt + 1)) (nI (k + 1)) S72 := by
        refine (bd (rooms_ok hm)).trans ?_
        refine (if_neg (mnle hw hkn)).trans ?_
        refine (if_neg hl0).trans ?_
        refine (if_pos (b.2.mpr hb)).trans ?_
        refine (bd (misCut_ok hm hw hkn)).trans ?_
        have e1 : (if (if A.val k 0 = 5 then (1 : Int32) else 0) = 0 then some (1 : Int32) else some 0) = some (if decide (¬ A.val k 0 = 5) = true then 1 else 0) := by
          by_cases hc : A.val k 0 = 5
          · rw [if_pos hc, if_neg (c := decide (¬ A.val k 0 = 5) = true) (by simp [hc])]
            rfl
          · rw [if_neg hc, if_pos (c := decide (¬ A.val k 0 = 5) = true) (by simp [hc])]
            rfl
        refine (bd e1).trans ?_
        refine (bd (mb1 hm hw hl (k := k) (by omega) (nI e) (nI mt) (decide (¬ A.val k 0 = 5)))).trans ?_
        rw [nI_1, nI_1]
        have e2 : (if decide (¬ A.val k 0 = 5) = true ∧ reach A l k = true then (1 : Int32) else 0) = (if ¬ A.val k 0 = 5 ∧ reach A l k = true then 1 else 0) := by simp
        rw [e2]
      by_cases hc : A.val k 0 = 5 ∨ reach A l k = false
      · rw [if_pos hc]
        have hc2 : ¬ (¬ A.val k 0 = 5 ∧ reach A l k = true) := fun z => by
          rcases hc with hc | hc
          · exact z.1 hc
          · rw [hc] at z; exact absurd z.2 (by decide)
        rw [if_neg hc2] at e0
        have e3 : X11_bars_L153 (nI e) (nI l) (nI mt) (nI k) (nI (mnw l.testBit (wk A k) 1000 A.n)) FU 0 5000 0 T = some (0, T) := by
          refine (bd (rooms_ok hm)).trans ?_
          refine (if_neg (mnle hw (k := 0) (by omega))).trans ?_
          exact if_pos rfl
        rw [e3] at e0
        exact ⟨T, e0, Un.rf _ _, hf⟩
      · rw [if_neg hc]
        have hc2 : ¬ A.val k 0 = 5 ∧ reach A l k = true := ⟨fun z => hc (Or.inl z), by
          cases h : reach A l k
          · exact absurd (Or.inr h) hc
          · rfl⟩
        rw [if_pos hc2] at e0
        obtain ⟨r0, r1, r2⟩ := hmm
        rw [mnw_two l.testBit (wk A k) r2 r1 (hw.2.2.1 r0 k (by omega) (by omega))] at e0
        cases ld with
        | none =>
          have hmt0 : mt = 0 := hmt.mpr rfl
          subst hmt0
          obtain ⟨U, a1, a2, a3⟩ := mb2 hm hw hl (k := k) (by omega) (nI e)
          have a1 : X11_bars_L153 (nI e) (nI l) (nI 0) (nI k) (nI (mnw l.testBit (wk A k) 400 A.n)) FU 1 5000 0 T = some (1, U) := a1
          rw [a1] at e0
          obtain ⟨T', b1, b2, b3⟩ := ih m (k + 1) (0 + 1) U (some (fun r => A.wire r k - sh A l k)) (by omega) (by omega) (by omega) (by simp) (hm.un a2 (by decide) (by decide)) (fun f hf => by cases hf; exact good_new hw (by omega) ⟨r0, r1, r2⟩) a3
          exact ⟨T', e0.trans b1, a2.trs b2, b3⟩
        | some f =>
          have hmt0 : mt ≠ 0 := fun z => by cases hmt.mp z
          obtain ⟨U, a1, a2, a3⟩ := mb3 hm hw hl (k := k) (by omega) (hg f rfl) hf (nI e) (nI mt) (nI (mnw l.testBit (wk A k) 400 A.n)) (fun z => hmt0 ((nI_eq (b := 0) (by omega) (by omega)).mp z))
          rw [a1] at e0
          show ∃ T', _ = some (outX (if agree A l k f = true then ff A e l c (k + 1) (some f) else (some k, some f)).1 T') ∧ Un [64] T T' ∧ lnk A l 64 T' (if agree A l k f = true then ff A e l c (k + 1) (some f) else (some k, some f)).2
          by_cases ha : agree A l k f = true
          · rw [if_pos ha] at e0 ⊢
            obtain ⟨T', b1, b2, b3⟩ := ih m (k + 1) (mt + 1) U (some f) (by omega) (by omega) (by omega) (by simp) (hm.un a2 (by decide) (by decide)) hg a3
            exact ⟨T', e0.trans b1, a2.trs b2, b3⟩
          · rw [if_neg ha] at e0 ⊢
            exact ⟨U, e0, a2, a3⟩
    · rw [if_neg hb]
      have e0 : X11_bars_L5 (nI e) (nI l) (m + 1) (nI mt) (nI k) T = X11_bars_L5 (nI e) (nI l) m (nI mt) (nI (k + 1)) T := by
        refine (bd (rooms_ok hm)).trans ?_
        refine (if_neg (mnle hw hkn)).trans ?_
        refine (if_neg hl0).trans ?_
        rw [← nI_1]
        exact if_neg (fun z => hb (b.2.mp z))
      rw [e0]
      exact ih m (k + 1) mt T ld (by omega) (by omega) (by omega) hmt hm hg hf
end TN
theorem nI_xor (a b : Nat) : nI a ^^^ nI b = nI (a ^^^ b) := by
  apply Int32.toBitVec_inj.1
  show BitVec.ofNat 32 a ^^^ BitVec.ofNat 32 b = BitVec.ofNat 32 (a ^^^ b)
  apply BitVec.eq_of_getLsbD_eq
  intro i hi
  simp [hi]
theorem and_nt {a e : Nat} : nI a &&& (nI e ^^^ (-1)) = nI (a &&& (e ^^^ 4294967295)) := by
  rw [show (-1 : Int32) = nI 4294967295 from rfl, nI_xor, nI_and]
theorem earsG {n : Nat} (hn : n ≤ 8) (a : Int32) : a &&& (nI (2 ^ n - 1) ^^^ (-1)) = 0 ↔ 0 ≤ a.toInt ∧ a.toInt ≤ 2 ^ n - 1 := by
  have hp : 2 ^ n ≤ 256 := Nat.pow_le_pow_right (by decide) hn
  have hp0 : 0 < 2 ^ n := Nat.two_pow_pos n
  have hpi : ((2 ^ n : Nat) : Int) = 2 ^ n := by simp
  rw [and_not, Int32.and_comm]
  constructor
  · intro h
    have e : a &&& nI (2 ^ n - 1) = nI (a.toBitVec.toNat % 2 ^ n) := pk_and a n (pk_tn (by omega))
    have hm : a.toBitVec.toNat % 2 ^ n < 2 ^ n := Nat.mod_lt _ hp0
    rw [e] at h
    rw [← h, nT (by omega)]
    omega
  · intro h
    obtain ⟨j, hj, rfl⟩ := i_nat (x := a) (n := 2 ^ n) h.1 (by omega)
    rw [nI_and, Nat.and_two_pow_sub_one_eq_mod, Nat.mod_eq_of_lt hj]
theorem st_together : ∀ (S : St) (a0 : Int32) (a1 : Int32), Inv S → ∃ (r : Int32) (S1 : St) (S2 : St), X10_together S a0 a1 = some (r, S1) ∧ X11_together S1 a0 a1 = some (r, S2) ∧ Inv S2 := by
  intro S a b hI
  obtain ⟨⟨A, hw, hx, hm⟩, -⟩ := id hI
  have hn := hw.1
  have hp : 2 ^ A.n ≤ 256 := Nat.pow_le_pow_right (by decide) hn
  have hp0 : 0 < 2 ^ A.n := Nat.two_pow_pos A.n
  have hpi : ((2 ^ A.n : Nat) : Int) = 2 ^ A.n := by simp
  have eall : (1 <<< (nI A.n &&& 31)) - 1 = nI (2 ^ A.n - 1) := by
    rw [one_shl _ (by omega)]
    exact pk_sub (a := 2 ^ A.n) (b := 1) (by omega)
  have eX : X10_together S a b = if 1 ≤ a.toInt ∧ a.toInt ≤ 2 ^ A.n - 1 then (if b = 8 then ((X2_firstFailing S a).bind fun (x20, S21) => some (x20, S21)) else (X6_has S b).bind fun x7 => if x7 = 0 then some (-1, S) else (X6_sings S b).bind fun x10 => if x10 = 0 then some (-2, S) else if ((a >>> (b &&& 31)) &&& 1) = 0 then ((X2_firstFailing S a).bind fun (x14, S15) => if x14 = (-4) then ((X2_leadOf S15 b).bind fun x18 => some (x18, S15)) else some (-4, S15)) else some (-2, S)) else some (-1, S) := by
    unfold X10_together
    have e1 : X6_all S = some (nI (2 ^ A.n - 1)) := by
      unfold X6_all
      rw [nN hx, eall]
    by_cases h0 : a = 0
    · rw [if_pos h0, if_neg]
      rw [h0]
      have : (0 : Int32).toInt = 0 := rfl
      omega
    · rw [if_neg h0]
      have h0' : a.toInt ≠ 0 := fun z => h0 ((i_eq a 0 0).mpr z)
      refine (bd e1).trans ?_
      by_cases h1 : 0 ≤ a.toInt ∧ a.toInt ≤ 2 ^ A.n - 1
      · rw [if_pos ((earsG hn a).mpr h1), if_pos (show 1 ≤ a.toInt ∧ a.toInt ≤ 2 ^ A.n - 1 by omega)]
      · rw [if_neg (fun z => h1 ((earsG hn a).mp z)), if_neg (show ¬ (1 ≤ a.toInt ∧ a.toInt ≤ 2 ^ A.n - 1) by omega)]
  have eM : ∀ T, HM T 61 0 62 0 A → X11_together T a b = if 1 ≤ a.toInt ∧ a.toInt ≤ 2 ^ A.n - 1 then (if 0 ≤ b.toInt ∧ b.toInt ≤ 8 then (if 8 ≤ b then ((X11_bars T a (nI (mask (sg A) A.n) &&& (a ^^^ (-1)))).bind fun (x14, S15) => if b = 8 then some (x14, S15) else if 0 ≤ x14 then some (-4, S15) else (ldA S15 64 b).bind fun x18 => some (x18, S15)) else if 0 ≤ b.toInt ∧ b.toInt < A.n then (if (((nI (mask (sg A) A.n) &&& (a ^^^ (-1))) >>> (b &&& 31)) &&& 1) = 0 then some (-2, T) else (X11_bars T a (nI (mask (sg A) A.n) &&& (a ^^^ (-1)))).bind fun (x43, S44) => if b = 8 then some (x43, S44) else if 0 ≤ x43 then some (-4, S44) else (ldA S44 64 b).bind fun x47 => some (x47, S44)) else some (-1, T)) else some (-1, T)) else some (-1, T) := fun T hT => by
    unfold X11_together
    refine (bd (rooms_ok hT)).trans ?_
    rw [eall]
    have e1 : ((nI (2 ^ A.n - 1)).toInt64).toInt = 2 ^ A.n - 1 := by
      rw [tI64, nT (by omega)]
      omega
    refine (md T a 1 _ 1 (2 ^ A.n - 1) (by decide) e1).trans ?_
    rw [md T b 0 8 0 8]
    rw [msingers_ok hT hw]
    rw [roomG hT hn b]
    by_cases h8 : (8 : Int32) ≤ b
    · rw [if_pos h8, if_pos h8]
      show (if 1 ≤ a.toInt ∧ a.toInt ≤ 2 ^ A.n - 1 then (if 0 ≤ b.toInt ∧ b.toInt ≤ 8 then (if 8 ≤ b then _ else _) else some (-1, T)) else some (-1, T)) = _
      rw [if_pos h8]
    · rw [if_neg h8, if_neg h8]
      show (if 1 ≤ a.toInt ∧ a.toInt ≤ 2 ^ A.n - 1 then (if 0 ≤ b.toInt ∧ b.toInt ≤ 8 then (if 0 ≤ b.toInt ∧ b.toInt < A.n then (if 8 ≤ b then _ else _) else some (-1, T)) else some (-1, T)) else some (-1, T)) = _
      rw [if_neg h8]
  by_cases h1 : 1 ≤ a.toInt ∧ a.toInt ≤ 2 ^ A.n - 1
  · obtain ⟨e, he, rfl⟩ := i_nat (x := a) (n := 2 ^ A.n) (by omega) (by omega)
    have he256 : e < 256 := by omega
    have he1 : 1 ≤ e := by
      have := h1.1
      rw [nT (by omega)] at this
      omega
    obtain ⟨l, hl⟩ : ∃ l, l = mask (sg A) A.n &&& (e ^^^ 4294967295) := ⟨_, rfl⟩
    have hmk := mask8 (sg A) hn
    have hl256 : l < 256 := by
      have : l ≤ mask (sg A) A.n := by rw [hl]; exact Nat.and_le_left
      omega
    have el : nI (mask (sg A) A.n) &&& (nI e ^^^ (-1)) = nI l := by rw [and_nt, hl]
    have hbit : ∀ r, r < 8 → (l.testBit r = true ↔ (r < A.n ∧ A.val r 0 < 4 ∧ e.testBit r = false)) := fun r hr => by
      have h32 : (4294967295 : Nat).testBit r = true := by
        have key : (List.range 8).all (fun i => (4294967295 : Nat).testBit i) = true := by decide +kernel
        exact List.all_eq_true.mp key r (List.mem_range.mpr hr)
      rw [hl, Nat.testBit_and, Nat.testBit_xor, h32, mask_tb]
      simp [and_assoc]
    have efX : ∀ T, HX T 1 A → X2_firstFailing T (nI e) = (X2_firstFailing_L15 (nI e) (nI l) FU 0 0 T).bind fun t => match t with
        | .inr (x21, S22) => some (x21, S22)
        | .inl S18 => some ((-4), S18) := fun T hT => by
      unfold X2_firstFailing
      refine (bd (singers_ok hT hw)).trans ?_
      rw [el]
      congr 1
    rw [if_pos h1] at eX
    have eM1 : ∀ T, HM T 61 0 62 0 A → X11_together T (nI e) b = _ := fun T hT => (eM T hT).trans (if_pos h1)
    rw [el] at eM1
    by_cases hl0 : l = 0
    · -- nobody sings without an ear
      have cX : X2_firstFailing S (nI e) = some (-4, S) := by
        rw [efX S hx, hl0]
        have : X2_firstFailing_L15 (nI e) (nI 0) FU 0 0 S = some (.inl S) := by
          by_cases hz : rI S 2 0 ≤ 0
          · exact if_pos hz
          · refine (if_neg hz).trans ?_
            exact if_pos rfl
        exact bd this
      have cM : X11_bars S (nI e) (nI l) = some (-4, S) := by
        unfold X11_bars
        rw [hl0]
        have : X11_bars_L5 (nI e) (nI 0) FU 0 0 S = some (.inl S) := by
          refine (bd (rooms_ok hm)).trans ?_
          by_cases hz : nI A.n ≤ 0
          · exact if_pos hz
          · refine (if_neg hz).trans ?_
            exact if_pos rfl
        exact bd this
      have eM2 := eM1 S hm
      rw [cM] at eM2
      rw [cX] at eX
      by_cases h8 : b = 8
      · refine ⟨-4, S, S, ?_, ?_, hI⟩
        · rw [eX, if_pos h8]
          rfl
        · rw [eM2, h8]
          rfl
      · rw [if_neg h8, has_ok hx hn b] at eX
        by_cases h2 : 0 ≤ b.toInt ∧ b.toInt < A.n
        · obtain ⟨w, hw1, rfl⟩ := i_nat h2.1 h2.2
          rw [if_pos h2] at eX
          have nb : ¬ l.testBit w = true := by rw [hl0]; simp
          have nb2 : ¬ (A.val w 0 < 4 ∧ e.testBit w = false) := fun z => nb ((hbit w (by omega)).mpr ⟨hw1, z.1, z.2⟩)
          refine ⟨-2, S, S, ?_, ?_, hI⟩
          · rw [eX]
            show (X6_sings S (nI w)).bind _ = _
            rw [sings_ok hx hw hw1]
            by_cases hs : A.val w 0 < 4
            · rw [if_pos hs]
              have b8 := bit8 he256 (t := w) (by omega)
              show (if ((nI e >>> (nI w &&& 31)) &&& 1) = 0 then _ else some (-2, S)) = _
              rw [if_neg (fun z => nb2 ⟨hs, b8.1.mp z⟩)]
            · rw [if_neg hs]
              rfl
          · rw [eM2, if_pos (by rw [nT (by omega)]; omega), if_neg (fun z => by have := (i_ge (nI w) 8 8).mp z; rw [nT (by omega)] at this; omega), if_pos h2]
            have b8 := bit8 hl256 (t := w) (by omega)
            rw [if_pos (b8.1.mpr (by simpa using nb))]
        · rw [if_neg h2] at eX
          refine ⟨-1, S, S, eX, ?_, hI⟩
          rw [eM2]
          by_cases h3 : 0 ≤ b.toInt ∧ b.toInt ≤ 8
          · rw [if_pos h3, if_neg (fun z => by have := (i_ge b 8 8).mp z; exact h8 ((i_eq b 8 8).mpr (by omega))), if_neg h2]
          · rw [if_neg h3]
    · have hmem : ∃ r, r < A.n ∧ l.testBit r = true := by
        obtain ⟨i, hi⟩ := Nat.exists_testBit_of_ne_zero hl0
        have hi8 : i < 8 := by
          by_cases z : i < 8
          · exact z
          · have : l.testBit i = false := Nat.testBit_lt_two_pow (Nat.lt_of_lt_of_le hl256 (by have := Nat.pow_le_pow_right (n := 2) (by decide) (show 8 ≤ i by omega); omega))
            rw [this] at hi
            cases hi
        exact ⟨i, ((hbit i hi8).mp hi).1, hi⟩
      obtain ⟨T, t1, t2, t3⟩ := cff hw he256 hl256 hl0 hmem A.n FU 0 S none (by omega) (FU_lt (by omega)) hx (fun f hf => by cases hf) (fun f hf => by cases hf)
      have t1 : X2_firstFailing_L15 (nI e) (nI l) FU 0 0 S = some (outX (ff A e l A.n 0 none).1 T) := t1
      have hmT : HM T 61 0 62 0 A := hm.un t2 (by decide) (by decide)
      obtain ⟨U, u1, u2, u3⟩ := mff hw he256 hl256 hl0 hmem A.n FU 0 0 T none (by omega) (FU_lt (by omega)) (by omega) (by simp) hmT (fun f hf => by cases hf) (fun f hf => by cases hf)
      have u1 : X11_bars_L5 (nI e) (nI l) FU 0 0 T = some (outX (ff A e l A.n 0 none).1 U) := u1
      obtain ⟨R, hR⟩ : ∃ R, R = ff A e l A.n 0 none := ⟨_, rfl⟩
      rw [← hR] at t1 t3 u1 u3
      have cX : X2_firstFailing S (nI e) = some (match R.1 with | none => -4 | some j => nI j, T) := by
        rw [efX S hx, t1]
        cases R.1 <;> rfl
      have cM : ∀ V, V = T → X11_bars V (nI e) (nI l) = some (match R.1 with | none => -4 | some j => nI j, U) := fun V hV => by
        subst hV
        unfold X11_bars
        rw [u1]
        cases R.1 <;> rfl
      have hu : Un [31, 64] S U := (t2.mono (by simp)).trs (u2.mono (by simp))
      have hIU : Inv U := hI.a hu (by decide) hw (hx.un hu (fun k hk => by simp <;> omega)) (hm.un hu (by decide) (by decide))
      rw [cX] at eX
      by_cases h8 : b = 8
      · refine ⟨match R.1 with | none => -4 | some j => nI j, T, U, ?_, ?_, hIU⟩
        · rw [eX, if_pos h8]
          rfl
        · rw [eM1 T hmT, cM T rfl, h8]
          rfl
      · rw [if_neg h8, has_ok hx hn b] at eX
        by_cases h2 : 0 ≤ b.toInt ∧ b.toInt < A.n
        · obtain ⟨w, hw1, rfl⟩ := i_nat h2.1 h2.2
          rw [if_pos h2] at eX
          have eX : X10_together S (nI e) (nI w) = (X6_sings S (nI w)).bind fun x10 => if x10 = 0 then some (-2, S) else if ((nI e >>> (nI w &&& 31)) &&& 1) = 0 then (if (match R.1 with | none => -4 | some j => nI j) = (-4) then ((X2_leadOf T (nI w)).bind fun x18 => some (x18, T)) else some (-4, T)) else some (-2, S) := eX
          have hn8 : ¬ (8 : Int32) ≤ nI w := fun z => by have := (i_ge (nI w) 8 8).mp z; rw [nT (by omega)] at this; omega
          have b8 := bit8 he256 (t := w) (by omega)
          have l8 := bit8 hl256 (t := w) (by omega)
          by_cases hq : A.val w 0 < 4 ∧ e.testBit w = false
          · have hlw : l.testBit w = true := (hbit w (by omega)).mpr ⟨hw1, hq.1, hq.2⟩
            rw [sings_ok hx hw hw1, if_pos hq.1] at eX
            replace eX := eX.trans (if_pos (b8.1.mpr hq.2))
            have eM3 := eM1 T hmT
            rw [if_pos (by rw [nT (by omega)]; omega), if_neg hn8, if_pos h2, if_neg (fun z => by rw [l8.1.mp z] at hlw; cases hlw), cM T rfl] at eM3
            cases hR1 : R.1 with
            | none =>
              rw [hR1] at eX eM3
              have hR2 : R.2 ≠ none := fun z => by
                have h3 : ff A e l A.n 0 none = (none, none) := by rw [← hR]; exact Prod.ext hR1 z
                have h4 := ff_none e l A.n 0 h3
                have : e = 0 := by
                  apply Nat.eq_of_testBit_eq
                  intro i
                  rw [Nat.zero_testBit]
                  by_cases hi : i < A.n
                  · exact h4 i (by omega) (by omega)
                  · exact Nat.testBit_lt_two_pow (Nat.lt_of_lt_of_le he (Nat.pow_le_pow_right (by decide) (by omega)))
                omega
              obtain ⟨f, hf⟩ := Option.ne_none_iff_exists'.mp hR2
              have lT := t3 f hf w hw1 hlw
              have lU := u3 f hf w hw1 hlw
              refine ⟨nI (f w), T, U, ?_, ?_, hIU⟩
              · refine eX.trans ?_
                refine (if_pos rfl).trans ?_
                have : X2_leadOf T (nI w) = some (nI (f w)) := by
                  unfold X2_leadOf
                  exact bd ((ldA_s T 31 w rfl rfl (by show _ < 8; omega)).trans (congrArg some lT))
                exact bd this
              · refine eM3.trans ?_
                refine (if_neg h8).trans ?_
                refine (if_neg (by decide)).trans ?_
                exact bd ((ldA_s U 64 w rfl rfl (by show _ < 8; omega)).trans (congrArg some lU))
            | some j =>
              rw [hR1] at eX eM3
              have hj8 : j < 8 := by
                have : ∀ c k ld j, (ff A e l c k ld).1 = some j → j < k + c := by
                  intro c
                  induction c with
                  | zero => intro k ld j h; cases h
                  | succ c ih =>
                    intro k ld j h
                    rw [ff_s] at h
                    split at h
                    · split at h
                      · cases h; omega
                      · cases ld with
                        | none => have := ih _ _ _ h; omega
                        | some f =>
                          have h : (if agree A l k f = true then ff A e l c (k + 1) (some f) else (some k, some f)).1 = some j := h
                          split at h
                          · have := ih _ _ _ h; omega
                          · cases h; omega
                    · have := ih _ _ _ h; omega
                have := this A.n 0 none j (by rw [← hR]; exact hR1)
                omega
              refine ⟨-4, T, U, ?_, ?_, hIU⟩
              · refine eX.trans ?_
                exact if_neg (fun z => by have z : nI j = -4 := z; have := congrArg Int32.toInt z; rw [nT (by omega)] at this; have h4 : (-4 : Int32).toInt = -4 := rfl; omega)
              · refine eM3.trans ?_
                refine (if_neg h8).trans ?_
                exact if_pos (nI_pos' (by omega))
          · have nlw : ¬ l.testBit w = true := fun z => hq ((hbit w (by omega)).mp z).2
            have eM3 := eM1 S hm
            rw [if_pos (by rw [nT (by omega)]; omega), if_neg hn8, if_pos h2, if_pos (l8.1.mpr (by simpa using nlw))] at eM3
            refine ⟨-2, S, S, ?_, eM3, hI⟩
            rw [eX, sings_ok hx hw hw1]
            by_cases hs : A.val w 0 < 4
            · rw [if_pos hs]
              exact if_neg (fun z => hq ⟨hs, b8.1.mp z⟩)
            · rw [if_neg hs]
              rfl
        · rw [if_neg h2] at eX
          refine ⟨-1, S, S, eX, ?_, hI⟩
          rw [eM1 S hm]
          by_cases h3 : 0 ≤ b.toInt ∧ b.toInt ≤ 8
          · rw [if_pos h3, if_neg (fun z => by have := (i_ge b 8 8).mp z; exact h8 ((i_eq b 8 8).mpr (by omega))), if_neg h2]
          · rw [if_neg h3]
  · exact ⟨-1, S, S, by rw [eX, if_neg h1], by rw [eM S hm, if_neg h1], hI⟩
