/-! clashes, canon -/
section CA
variable {S : St} {A : Ch}
def cl1 (A : Ch) (d k : Nat) : Int32 := if A.snd k % 10 = 0 then 0 else if A.snd (k - d) % 10 = 0 then 0 else if ((nI A.fit >>> (nI ((A.snd k % 10 - A.snd (k - d) % 10) + (A.snd (k - d) % 10 - A.snd k % 10)) &&& 31)) &&& 1) = 0 then 1 else 0
theorem abs1 {a b : Nat} (ha : a < 8) (hb : b < 8) : (if 0 ≤ (nI a - nI b) then (nI a - nI b) else 0 - (nI a - nI b)) = nI ((a - b) + (b - a)) ∧ (if nI a ≤ nI b then some (nI b - nI a) else some (nI a - nI b)) = some (nI ((a - b) + (b - a))) := by
  have key : (List.range 8).all (fun a => (List.range 8).all (fun b => decide ((if 0 ≤ (nI a - nI b) then (nI a - nI b) else 0 - (nI a - nI b)) = nI ((a - b) + (b - a))) && decide ((if nI a ≤ nI b then some (nI b - nI a) else some (nI a - nI b)) = some (nI ((a - b) + (b - a)))))) = true := by decide +kernel
  have h := List.all_eq_true.mp (List.all_eq_true.mp key a (List.mem_range.mpr ha)) b (List.mem_range.mpr hb)
  simp only [Bool.and_eq_true, decide_eq_true_eq] at h
  exact h
theorem rm10 {a : Nat} (h : a < 2 ^ 31) : rmO (nI a) 10 = some (nI (a % 10)) := by
  unfold rmO
  rw [if_neg (by decide)]
  exact congrArg some (pk_rem (a := a) (d := 10) h (by omega) (by omega))
theorem n0 {a : Nat} (h : a < 2 ^ 31) : (nI a = 0 ↔ a = 0) ∧ (nI a ≤ 0 ↔ a = 0) := by
  refine ⟨nI_eq (a := a) (b := 0) h (by omega), ?_⟩
  rw [show (0 : Int32) = nI 0 from rfl, nI_leI h (by omega)]
  omega
theorem cla_ok (hx : HX S 1 A) (hw : Wf A) {d : Nat} (h1 : 1 ≤ d) (hd : d < A.len) : X5_clashesAt S (nI d) (rI S 1 3) = some (fo (fun k (v : Int32) => v + cl1 A d k) d (A.len - d) 0) := by
  have hl := hw.2.2.2.2.2.2.2.1
  have e6 : rI S 6 0 = nI A.len := hx.1.2.2.2.2.1
  have ef : rI S 1 3 = nI A.fit := hx.1.2.2.2.1
  have h : ∀ c n k s, d ≤ k → k + c = A.len → c < n → X5_clashesAt_L5 S (nI d) (nI A.fit) n s (nI k) = some (fo (fun k (v : Int32) => v + cl1 A d k) k c s) := by
    intro c
    induction c with
    | zero =>
      intro n k s _ hk hn
      obtain ⟨m, rfl⟩ : ∃ m, n = m + 1 := ⟨n - 1, by omega⟩
      exact if_pos (by rw [e6]; exact nI_le (by omega) (by omega))
    | succ c ih =>
      intro n k s hdk hk hn
      obtain ⟨m, rfl⟩ : ∃ m, n = m + 1 := ⟨n - 1, by omega⟩
      refine Eq.trans ?_ (ih m (k + 1) (s + cl1 A d k) (by omega) (by omega) (by omega))
      have s1 := hx.2.2.2.2.1 k (by omega)
      have s2 := hx.2.2.2.2.1 (k - d) (by omega)
      have b1 := hw.2.2.2.2.2.2.2.2.1 k (by omega)
      have b2 := hw.2.2.2.2.2.2.2.2.1 (k - d) (by omega)
      refine (if_neg (by rw [e6]; exact nI_ge (by omega) (by omega))).trans ?_
      refine (bd ((ldA_s S 7 k rfl rfl (by show _ < 64; omega)).trans (congrArg some s1))).trans ?_
      refine (bd (rm10 (by omega))).trans ?_
      refine (bd ((ldA_s S 7 (k - d) rfl (pk_sub hdk) (by show _ < 64; omega)).trans (congrArg some s2))).trans ?_
      refine (bd (rm10 (by omega))).trans ?_
      rw [← nI_1]
      unfold cl1
      rw [(abs1 (by omega) (by omega)).1]
      by_cases c1 : A.snd k % 10 = 0
      · rw [if_pos c1, if_pos ((n0 (by omega)).1.mpr c1), Int32.add_zero]
        rfl
      · rw [if_neg c1, if_neg (fun z => c1 ((n0 (by omega)).1.mp z))]
        by_cases c2 : A.snd (k - d) % 10 = 0
        · rw [if_pos c2, if_pos ((n0 (by omega)).1.mpr c2), Int32.add_zero]
          rfl
        · rw [if_neg c2, if_neg (fun z => c2 ((n0 (by omega)).1.mp z))]
          by_cases c3 : ((nI A.fit >>> (nI ((A.snd k % 10 - A.snd (k - d) % 10) + (A.snd (k - d) % 10 - A.snd k % 10)) &&& 31)) &&& 1) = 0
          · rw [if_pos c3, if_pos c3]
            rfl
          · rw [if_neg c3, if_neg c3, Int32.add_zero]
            rfl
  unfold X5_clashesAt
  rw [ef]
  exact bd (h (A.len - d) FU d 0 (Nat.le_refl d) (by omega) (FU_lt (by omega)))
theorem mcla_ok (hm : HM S 61 0 62 0 A) (hw : Wf A) {d : Nat} (h1 : 1 ≤ d) (hd : d < A.len) : X11_clashesAt S (nI d) = some (fo (fun k (v : Int32) => v + cl1 A d k) d (A.len - d) 0) := by
  have hl := hw.2.2.2.2.2.2.2.1
  have e6 : ldA S 61 130 = some (nI A.len) := (ldA_s S 61 130 rfl rfl (by decide)).trans (congrArg some hm.1.2.2.2.2.1)
  have ef : ldA S 61 129 = some (nI A.fit) := (ldA_s S 61 129 rfl rfl (by decide)).trans (congrArg some hm.1.2.2.2.1)
  have h : ∀ c n k s, d ≤ k → k + c = A.len → c < n → X11_clashesAt_L4 S (nI d) n s (nI k) = some (fo (fun k (v : Int32) => v + cl1 A d k) k c s) := by
    intro c
    induction c with
    | zero =>
      intro n k s _ hk hn
      obtain ⟨m, rfl⟩ : ∃ m, n = m + 1 := ⟨n - 1, by omega⟩
      exact (bd e6).trans (if_pos (nI_le (by omega) (by omega)))
    | succ c ih =>
      intro n k s hdk hk hn
      obtain ⟨m, rfl⟩ : ∃ m, n = m + 1 := ⟨n - 1, by omega⟩
      refine Eq.trans ?_ (ih m (k + 1) (s + cl1 A d k) (by omega) (by omega) (by omega))
      have s1 := hm.2.2.2.2.2.1 k (by omega)
      have s2 := hm.2.2.2.2.2.1 (k - d) (by omega)
      rw [show 0 + 136 + k = 136 + k by omega] at s1
      rw [show 0 + 136 + (k - d) = 136 + k - d by omega] at s2
      have b1 := hw.2.2.2.2.2.2.2.2.1 k (by omega)
      have b2 := hw.2.2.2.2.2.2.2.2.1 (k - d) (by omega)
      refine (bd e6).trans ?_
      refine (if_neg (nI_ge (by omega) (by omega))).trans ?_
      refine (bd ((ldA_s S 61 (136 + k) rfl (nI_add 136 k) (by show _ < 648; omega)).trans (congrArg some s1))).trans ?_
      refine (bd (rm10 (by omega))).trans ?_
      refine (bd ((ldA_s S 61 (136 + k - d) rfl (by rw [show (136 : Int32) = nI 136 from rfl, nI_add, pk_sub (by omega)]) (by show _ < 648; omega)).trans (congrArg some s2))).trans ?_
      refine (bd (rm10 (by omega))).trans ?_
      refine (bd (abs1 (by omega) (by omega)).2).trans ?_
      rw [← nI_1, ef]
      unfold cl1
      by_cases c1 : A.snd k % 10 = 0
      · rw [if_pos c1, if_pos ((n0 (by omega)).2.mpr c1)]
        rfl
      · rw [if_neg c1, if_neg (fun z => c1 ((n0 (by omega)).2.mp z))]
        by_cases c2 : A.snd (k - d) % 10 = 0
        · rw [if_pos c2, if_pos ((n0 (by omega)).2.mpr c2)]
          rfl
        · rw [if_neg c2, if_neg (fun z => c2 ((n0 (by omega)).2.mp z))]
          by_cases c3 : ((nI A.fit >>> (nI ((A.snd k % 10 - A.snd (k - d) % 10) + (A.snd (k - d) % 10 - A.snd k % 10)) &&& 31)) &&& 1) = 0
          · rw [if_pos c3]
            have : ((some (nI A.fit)).bind fun x21 => if ((x21 >>> (nI ((A.snd k % 10 - A.snd (k - d) % 10) + (A.snd (k - d) % 10 - A.snd k % 10)) &&& 31)) &&& 1) = 0 then some (1 : Int32) else some 0) = some 1 := if_pos c3
            exact bd this
          · rw [if_neg c3]
            have : ((some (nI A.fit)).bind fun x21 => if ((x21 >>> (nI ((A.snd k % 10 - A.snd (k - d) % 10) + (A.snd (k - d) % 10 - A.snd k % 10)) &&& 31)) &&& 1) = 0 then some (1 : Int32) else some 0) = some 0 := if_neg c3
            exact bd this
  unfold X11_clashesAt
  exact bd (h (A.len - d) FU d 0 (Nat.le_refl d) (by omega) (FU_lt (by omega)))
theorem st_clashes : ∀ (S : St) (a0 : Int32), Inv S → ∃ (r : Int32), X10_clashes S a0 = some r ∧ X11_clashes S a0 = some r ∧ Inv S := by
  intro S a hI
  obtain ⟨⟨A, hw, hx, hm⟩, -⟩ := id hI
  have hl := hw.2.2.2.2.2.2.2.1
  have e6 : rI S 6 0 = nI A.len := hx.1.2.2.2.2.1
  have m6 : ldA S 61 130 = some (nI A.len) := (ldA_s S 61 130 rfl rfl (by decide)).trans (congrArg some hm.1.2.2.2.2.1)
  have em : X11_clashes S a = if 1 ≤ a.toInt ∧ a.toInt ≤ (A.len : Int) - 1 then (X11_clashesAt S a).bind fun x7 => some x7 else some (-1) := by
    unfold X11_clashes
    refine (bd m6).trans ?_
    exact md S a 1 (nI A.len - 1).toInt64 1 (A.len - 1) (by decide) (by rw [tI64]; exact pk_sub_toInt (a := A.len) (b := 1) (by omega) (by omega))
  have ex : X10_clashes S a = if 1 ≤ a.toInt ∧ a.toInt ≤ (A.len : Int) - 1 then (X5_clashesAt S a (rI S 1 3)).bind fun x7 => some x7 else some (-1) := by
    unfold X10_clashes
    rw [e6]
    by_cases h1 : a < 1
    · have := (i_lt a 1 1).mp h1
      rw [if_pos h1, if_neg (by omega)]
    · have h1' : ¬ a.toInt < 1 := fun y => h1 ((i_lt a 1 1).mpr y)
      rw [if_neg h1]
      by_cases h2 : a < nI A.len
      · have := (i_lt a (nI A.len) A.len (nT (by omega))).mp h2
        rw [if_pos h2, if_pos (by omega)]
      · have h2' : ¬ a.toInt < A.len := fun y => h2 ((i_lt a (nI A.len) A.len (nT (by omega))).mpr y)
        rw [if_neg h2, if_neg (by omega)]
  by_cases h : 1 ≤ a.toInt ∧ a.toInt ≤ (A.len : Int) - 1
  · obtain ⟨d, hd, rfl⟩ := i_nat (x := a) (n := A.len) (by omega) (by omega)
    have h' := h.1
    rw [nT (by omega)] at h'
    refine ⟨fo (fun k (v : Int32) => v + cl1 A d k) d (A.len - d) 0, ?_, ?_, hI⟩
    · rw [ex, if_pos h, cla_ok hx hw (by omega) hd]
      rfl
    · rw [em, if_pos h, mcla_ok hm hw (by omega) hd]
      rfl
  · exact ⟨-1, by rw [ex, if_neg h], by rw [em, if_neg h], hI⟩
theorem st_canon : ∀ (S : St) (a0 : Int32), Inv S → ∃ (r : Int32), X10_canon S a0 = some r ∧ X11_canon S a0 = some r ∧ Inv S := by
  intro S a hI
  obtain ⟨⟨A, hw, hx, hm⟩, -⟩ := id hI
  have hl := hw.2.2.2.2.2.2.2.1
  have e6 : rI S 6 0 = nI A.len := hx.1.2.2.2.2.1
  have m6 : ldA S 61 130 = some (nI A.len) := (ldA_s S 61 130 rfl rfl (by decide)).trans (congrArg some hm.1.2.2.2.2.1)
  by_cases h : (0 : Int32) ≤ a
  · have h0 := (i_ge a 0 0).mp h
    have hm0 := Int32.toInt_lt a
    obtain ⟨i, hi, rfl⟩ := i_nat (x := a) (n := 2147483648) h0 (by omega)
    have key : ∀ c m k f, 1 ≤ k → k + c = A.len ∨ (c = 0 ∧ A.len ≤ k) → c < m → f ≤ i → f < k → k ≤ 64 → ∃ t, X10_canon_L10 S (nI i) m (nI f) (nI k) = some t ∧ X11_canon_L10 S m (nI (i - f)) (nI k) = some t := by
      intro c
      induction c with
      | zero =>
        intro m k f _ hk hm1 _ _ hk64
        obtain ⟨m, rfl⟩ : ∃ n, m = n + 1 := ⟨m - 1, by omega⟩
        refine ⟨.inl (), if_pos (by rw [e6]; exact nI_le (by omega) (by omega)), (bd m6).trans (if_pos (nI_le (by omega) (by omega)))⟩
      | succ c ih =>
        intro m k f h1 hk hm1 hf hfk hk64
        obtain ⟨m, rfl⟩ : ∃ n, m = n + 1 := ⟨m - 1, by omega⟩
        have hkl : k < A.len := by omega
        obtain ⟨q, hq⟩ : ∃ q, q = fo (fun k (v : Int32) => v + cl1 A k k) 0 0 0 := ⟨_, rfl⟩
        obtain ⟨g, hg⟩ : ∃ g, g = fo (fun j (v : Int32) => v + cl1 A k j) k (A.len - k) 0 := ⟨_, rfl⟩
        have c1 := cla_ok hx hw h1 hkl
        have c2 := mcla_ok hm hw h1 hkl
        rw [← hg] at c1 c2
        by_cases hg0 : g = 0
        · by_cases hfi : f = i
          · refine ⟨.inr (nI k), ?_, ?_⟩
            · refine (if_neg (by rw [e6]; exact nI_ge (by omega) (by omega))).trans ?_
              refine (bd c1).trans ?_
              refine (if_pos hg0).trans ?_
              exact if_pos (by rw [hfi])
            · refine (bd m6).trans ?_
              refine (if_neg (nI_ge (by omega) (by omega))).trans ?_
              refine (bd c2).trans ?_
              refine (bd (if_pos hg0)).trans ?_
              refine (if_neg (by decide)).trans ?_
              exact if_pos (by rw [hfi, Nat.sub_self]; rfl)
          · obtain ⟨t, t1, t2⟩ := ih m (k + 1) (f + 1) (by omega) (by omega) (by omega) (by omega) (by omega) (by omega)
            refine ⟨t, ?_, ?_⟩
            · rw [← t1]
              refine (if_neg (by rw [e6]; exact nI_ge (by omega) (by omega))).trans ?_
              refine (bd c1).trans ?_
              refine (if_pos hg0).trans ?_
              rw [← nI_1, ← nI_1]
              exact if_neg (fun z => hfi ((nI_eq (by omega) (by omega)).mp z))
            · rw [← t2]
              refine (bd m6).trans ?_
              refine (if_neg (nI_ge (by omega) (by omega))).trans ?_
              refine (bd c2).trans ?_
              refine (bd (if_pos hg0)).trans ?_
              refine (if_neg (by decide)).trans ?_
              refine (if_neg (fun z => hfi (by have := (nI_eq (a := i - f) (b := 0) (by omega) (by omega)).mp z; omega))).trans ?_
              refine (bd (if_neg (by decide))).trans ?_
              rw [show i - (f + 1) = (i - f) - 1 by omega, ← nI_1, ← pk_sub (a := i - f) (b := 1) (by omega)]
              rfl
        · obtain ⟨t, t1, t2⟩ := ih m (k + 1) f (by omega) (by omega) (by omega) (by omega) (by omega) (by omega)
          refine ⟨t, ?_, ?_⟩
          · rw [← t1]
            refine (if_neg (by rw [e6]; exact nI_ge (by omega) (by omega))).trans ?_
            refine (bd c1).trans ?_
            rw [← nI_1]
            exact if_neg hg0
          · rw [← t2]
            refine (bd m6).trans ?_
            refine (if_neg (nI_ge (by omega) (by omega))).trans ?_
            refine (bd c2).trans ?_
            refine (bd (if_neg hg0)).trans ?_
            refine (if_pos rfl).trans ?_
            refine (bd (if_pos rfl)).trans ?_
            rw [← nI_1, Int32.sub_zero]
    obtain ⟨t, t1, t2⟩ := key (A.len - 1) FU 1 0 (by omega) (by omega) (FU_lt (by omega)) (by omega) (by omega) (by omega)
    have t1 : X10_canon_L10 S (nI i) FU 0 1 = some t := t1
    have t2 : X11_canon_L10 S FU (nI i) 1 = some t := t2
    refine ⟨match t with | .inr x => x | .inl _ => -4, ?_, ?_, hI⟩
    · unfold X10_canon
      rw [if_pos h]
      refine (bd t1).trans ?_
      cases t <;> rfl
    · unfold X11_canon
      rw [if_pos h]
      refine (bd t2).trans ?_
      cases t <;> rfl
  · exact ⟨-1, if_neg h, if_neg h, hI⟩
end CA
