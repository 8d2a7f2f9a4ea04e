/-! goes -/
theorem and_not (a x : Int32) : a &&& (x ^^^ (-1)) = 0 ↔ x &&& a = a := by
  have k : ∀ i, i < 32 → (-1 : Int32).toBitVec.getLsbD i = true := by
    intro i hi
    have : ∀ j : Fin 32, (-1 : Int32).toBitVec.getLsbD j.val = true := by decide +kernel
    exact this ⟨i, hi⟩
  have e : ∀ i, i < 32 → (a &&& (x ^^^ (-1))).toBitVec.getLsbD i = (a.toBitVec.getLsbD i && !x.toBitVec.getLsbD i) := fun i hi => by
    rw [Int32.toBitVec_and, Int32.toBitVec_xor, BitVec.getLsbD_and, BitVec.getLsbD_xor, k i hi]
    cases a.toBitVec.getLsbD i <;> cases x.toBitVec.getLsbD i <;> rfl
  have f : ∀ i, (x &&& a).toBitVec.getLsbD i = (x.toBitVec.getLsbD i && a.toBitVec.getLsbD i) := fun i => by
    rw [Int32.toBitVec_and, BitVec.getLsbD_and]
  have z : ∀ i, (0 : Int32).toBitVec.getLsbD i = false := fun i => by
    show (0#32).getLsbD i = false
    simp
  constructor
  · intro h
    apply Int32.toBitVec_inj.1
    apply BitVec.eq_of_getLsbD_eq
    intro i hi
    have := e i hi
    rw [h, z] at this
    rw [f]
    cases h1 : a.toBitVec.getLsbD i <;> cases h2 : x.toBitVec.getLsbD i <;> rw [h1, h2] at this <;> first | rfl | cases this
  · intro h
    apply Int32.toBitVec_inj.1
    apply BitVec.eq_of_getLsbD_eq
    intro i hi
    have := f i
    rw [h] at this
    rw [e i hi, z]
    cases h1 : a.toBitVec.getLsbD i <;> cases h2 : x.toBitVec.getLsbD i <;> rw [h1, h2] at this <;> first | rfl | cases this
def lbf (A : Ch) (i : Nat) : Nat → Nat
  | 0 => i
  | k + 1 => if uc A k = true then min (lbf A i k) (A.val k 5) else lbf A i k
theorem lbf_le (A : Ch) (i : Nat) : ∀ k, lbf A i k ≤ i
  | 0 => Nat.le_refl i
  | k + 1 => by
    have := lbf_le A i k
    show (if uc A k = true then min (lbf A i k) (A.val k 5) else lbf A i k) ≤ i
    split <;> omega
theorem lbf_min (A : Ch) : ∀ k, lbf A 63 k = min 63 (lbf A 64 k)
  | 0 => rfl
  | k + 1 => by
    have := lbf_min A k
    show (if uc A k = true then min (lbf A 63 k) (A.val k 5) else lbf A 63 k) = min 63 (if uc A k = true then min (lbf A 64 k) (A.val k 5) else lbf A 64 k)
    split <;> omega
theorem lbf_at (A : Ch) {r : Nat} (hu : uc A r = true) : ∀ k, r < k → lbf A 64 k ≤ A.val r 5
  | 0, h => absurd h (Nat.not_lt_zero r)
  | k + 1, h => by
    show (if uc A k = true then min (lbf A 64 k) (A.val k 5) else lbf A 64 k) ≤ A.val r 5
    by_cases hk : r = k
    · subst hk
      rw [if_pos hu]
      omega
    · have := lbf_at A hu k (by omega)
      split <;> omega
def bl (A : Ch) : Nat → Nat
  | 0 => 0
  | b + 1 => if 10 ≤ A.snd b then b + 1 else bl A b
theorem bl_le (A : Ch) : ∀ b, bl A b ≤ b
  | 0 => Nat.le_refl 0
  | b + 1 => by
    have := bl_le A b
    show (if 10 ≤ A.snd b then b + 1 else bl A b) ≤ b + 1
    split <;> omega
section GO
variable {S : St} {A : Ch}
theorem leastBeat_ok (hx : HX S 1 A) (hw : Wf A) : X6_leastBeat S (nI (mask (uc A) A.n)) = some (nI (lbf A 63 A.n)) := by
  have hn := hw.1
  obtain ⟨r, h, e⟩ := forG (fun n k (s : Int32) => X6_leastBeat_L8 S (nI (mask (uc A) A.n)) n s (nI k)) A.n (fun k s => s = nI (lbf A 63 k)) (fun r => r = nI (lbf A 63 A.n)) (fun n s hp => ⟨s, if_pos (xle hx hw), hp⟩) (fun n k s hk hp => by
    right
    refine ⟨nI (lbf A 63 (k + 1)), ?_, rfl⟩
    show X6_leastBeat_L8 S (nI (mask (uc A) A.n)) (n + 1) s (nI k) = X6_leastBeat_L8 S (nI (mask (uc A) A.n)) n (nI (lbf A 63 (k + 1))) (nI (k + 1))
    refine (if_neg (xnle hx hw hk)).trans ?_
    have b := bit8 (mask8 (uc A) hn) (t := k) (by omega)
    have hb : (mask (uc A) A.n).testBit k = uc A k := by rw [mask_tb]; simp [hk]
    rw [hb] at b
    rw [← nI_1, hp]
    have hle := lbf_le A 63 k
    have hv : A.val k 5 ≤ 63 := hw.2.1 k 5 hk (by omega)
    by_cases hu : uc A k = true
    · rw [show lbf A 63 (k + 1) = min (lbf A 63 k) (A.val k 5) from if_pos hu]
      have ev : X6_value S (nI k) 5 = some (nI (A.val k 5)) := (value_ok (w := 5) (by omega) (by omega)).trans (congrArg some (hx.2.1 k 5 hk (by omega)))
      rw [if_neg (fun z => by rw [b.1.mp z] at hu; cases hu), ev]
      show X6_leastBeat_L8 S _ n (if nI (A.val k 5) < nI (lbf A 63 k) then nI (A.val k 5) else nI (lbf A 63 k)) (nI k + 1) = _
      by_cases hc : A.val k 5 < lbf A 63 k
      · rw [if_pos (nI_lt hc (by omega)), show min (lbf A 63 k) (A.val k 5) = A.val k 5 by omega]
      · rw [if_neg (fun z => hc ((nI_ltI (by omega) (by omega)).mp z)), show min (lbf A 63 k) (A.val k 5) = lbf A 63 k by omega]
    · rw [show lbf A 63 (k + 1) = lbf A 63 k from if_neg hu, if_pos (b.1.mpr (by simpa using hu))]
      rfl) A.n FU 0 63 (by omega) (FU_lt (by omega)) rfl
  unfold X6_leastBeat
  refine (bd (rfl : ldT MOSTV 5 = some 63)).trans ?_
  rw [← e]
  exact bd h
theorem behind_ok (hx : HX S 1 A) (hw : Wf A) {t : Nat} (ht : t ≤ 63) : X5_behindLastBreath S (nI t) = some (nI (bl A (min A.len t))) := by
  have hl := hw.2.2.2.2.2.2.2.1
  have e6 : rI S 6 0 = nI A.len := hx.1.2.2.2.2.1
  have key : ∀ b n, b ≤ A.len → b < n → X5_behindLastBreath_L9 S n (nI b) = some (.inr (nI (bl A b))) ∨ (X5_behindLastBreath_L9 S n (nI b) = some (.inl ()) ∧ bl A b = 0) := by
    intro b
    induction b with
    | zero =>
      intro n _ hn
      obtain ⟨m, rfl⟩ : ∃ m, n = m + 1 := ⟨n - 1, by omega⟩
      exact Or.inr ⟨if_pos (by decide), rfl⟩
    | succ b ih =>
      intro n hb hn
      obtain ⟨m, rfl⟩ : ∃ m, n = m + 1 := ⟨n - 1, by omega⟩
      have b1 := hw.2.2.2.2.2.2.2.2.1 b (by omega)
      have e1 : X5_behindLastBreath_L9 S (m + 1) (nI (b + 1)) = if nI (A.snd b) < 10 then X5_behindLastBreath_L9 S m (nI b) else some (.inr (nI (b + 1))) := by
        refine (if_neg (fun z => by have := (nI_leI (a := b + 1) (b := 0) (by omega) (by decide)).mp z; omega)).trans ?_
        refine (bd ((ldA_s S 7 b rfl (nI_pred b) (by show _ < 64; omega)).trans (congrArg some (hx.2.2.2.2.1 b (by omega))))).trans ?_
        rw [pk_m1]
      rw [e1]
      have e2 : bl A (b + 1) = if 10 ≤ A.snd b then b + 1 else bl A b := rfl
      rw [e2]
      by_cases h10 : 10 ≤ A.snd b
      · left
        rw [if_pos h10]
        exact if_neg (fun z => by have := (nI_ltI (b := 10) (by omega) (by decide)).mp z; omega)
      · rw [if_neg h10]
        have e3 : (if nI (A.snd b) < 10 then X5_behindLastBreath_L9 S m (nI b) else some (.inr (nI (b + 1)))) = X5_behindLastBreath_L9 S m (nI b) := if_pos (nI_lt (b := 10) (by omega) (by decide))
        rw [e3]
        exact ih m (by omega) (by omega)
  have e5 : (if (rI S 6 0) < nI t then (rI S 6 0) else nI t) = nI (min A.len t) := by
    rw [e6]
    by_cases h : A.len < t
    · rw [if_pos (nI_lt h (by omega)), show min A.len t = A.len by omega]
    · rw [if_neg (fun z => h ((nI_ltI (by omega) (by omega)).mp z)), show min A.len t = t by omega]
  unfold X5_behindLastBreath
  rw [e5]
  rcases key (min A.len t) FU (by omega) (FU_lt (by omega)) with h | ⟨h, h0⟩
  · rw [h]
    rfl
  · rw [h, h0]
    rfl
theorem mgo1 (hm : HM S 61 0 62 0 A) (hw : Wf A) (v1 : Int32) : X11_goes_L36 S v1 FU 64 0 0 = some (nI (lbf A 64 A.n), nI (mask (uc A) A.n)) := by
  have hn := hw.1
  obtain ⟨r, h, e⟩ := forG (fun n k (s : Int32 × Int32) => X11_goes_L36 S v1 n s.1 s.2 (nI k)) A.n (fun k s => s = (nI (lbf A 64 k), nI (mask (uc A) k))) (fun r => r = (nI (lbf A 64 A.n), nI (mask (uc A) A.n))) (fun n s hp => ⟨(s.1, s.2), (bd (rooms_ok hm)).trans (if_pos (mle hw)), hp⟩) (fun n k s hk hp => by
    right
    refine ⟨(nI (lbf A 64 (k + 1)), nI (mask (uc A) (k + 1))), ?_, rfl⟩
    show X11_goes_L36 S v1 (n + 1) s.1 s.2 (nI k) = X11_goes_L36 S v1 n (nI (lbf A 64 (k + 1))) (nI (mask (uc A) (k + 1))) (nI (k + 1))
    refine (bd (rooms_ok hm)).trans ?_
    refine (if_neg (mnle hw hk)).trans ?_
    rw [hp, ← nI_1, ← mask_step (uc A) (k := k) (by omega)]
    have hle := lbf_le A 64 k
    have hv : A.val k 5 ≤ 63 := hw.2.1 k 5 hk (by omega)
    by_cases hc : A.val k 0 = 5
    · have hu : ¬ uc A k = true := by simp [hc]
      refine (bd ((misCut_ok hm hw hk).trans (congrArg some (if_pos hc)))).trans ?_
      rw [show lbf A 64 (k + 1) = lbf A 64 k from if_neg hu, if_neg hu, Int32.or_zero]
      rfl
    · have hu : uc A k = true := by simp [hc]
      refine (bd ((misCut_ok hm hw hk).trans (congrArg some (if_neg hc)))).trans ?_
      have ev : X11_of S (nI k) 5 = some (nI (A.val k 5)) := by
        have := hm.2.1 k 5 hk (by omega)
        rw [show 0 + 8 + 6 * k + 5 = 8 + 6 * k + 5 by omega] at this
        exact (of_ok (w := 5) (by omega) (by omega)).trans (congrArg some this)
      rw [show lbf A 64 (k + 1) = min (lbf A 64 k) (A.val k 5) from if_pos hu, if_pos hu, ev]
      show ((if nI (lbf A 64 k) ≤ nI (A.val k 5) then some (nI (lbf A 64 k)) else some (nI (A.val k 5))).bind fun x22 => some (x22, (nI (mask (uc A) k) ||| (1 <<< (nI k &&& 31))))).bind _ = _
      by_cases hl : lbf A 64 k ≤ A.val k 5
      · rw [if_pos (nI_le hl (by omega)), show min (lbf A 64 k) (A.val k 5) = lbf A 64 k by omega]
        rfl
      · rw [if_neg (nI_ge (by omega) (by omega)), show min (lbf A 64 k) (A.val k 5) = A.val k 5 by omega]
        rfl) A.n FU 0 (64, 0) (by omega) (FU_lt (by omega)) rfl
  rw [← e]
  exact h
theorem mgo2 (hm : HM S 61 0 62 0 A) (hw : Wf A) {t : Nat} (ht : t ≤ 64) : X11_goes_L123 S (nI t) FU 0 0 = some (nI (bl A (min A.len t))) := by
  have hl := hw.2.2.2.2.2.2.2.1
  have e6 : ldA S 61 130 = some (nI A.len) := (ldA_s S 61 130 rfl rfl (by decide)).trans (congrArg some hm.1.2.2.2.2.1)
  obtain ⟨r, h, e⟩ := forG (fun n k (s : Int32) => X11_goes_L123 S (nI t) n s (nI k)) A.len (fun k s => s = nI (bl A (min k t))) (fun r => r = nI (bl A (min A.len t))) (fun n s hp => ⟨s, (bd e6).trans (if_pos (nI_le (Nat.le_refl _) (by omega))), hp⟩) (fun n k s hk hp => by
    right
    refine ⟨nI (bl A (min (k + 1) t)), ?_, rfl⟩
    show X11_goes_L123 S (nI t) (n + 1) s (nI k) = X11_goes_L123 S (nI t) n (nI (bl A (min (k + 1) t))) (nI (k + 1))
    have b1 := hw.2.2.2.2.2.2.2.2.1 k hk
    have s1 := hm.2.2.2.2.2.1 k hk
    rw [show 0 + 136 + k = 136 + k by omega] at s1
    refine (bd e6).trans ?_
    refine (if_neg (nI_ge hk (by omega))).trans ?_
    refine (bd ((ldA_s S 61 (136 + k) rfl (nI_add 136 k) (by show _ < 648; omega)).trans (congrArg some s1))).trans ?_
    rw [nI_1, hp]
    by_cases hc : k + 1 ≤ t
    · have em : min (k + 1) t = k + 1 := by omega
      have em2 : min k t = k := by omega
      rw [em, em2, show bl A (k + 1) = if 10 ≤ A.snd k then k + 1 else bl A k from rfl]
      by_cases h10 : 10 ≤ A.snd k
      · rw [if_pos h10]
        refine bd ((if_neg (fun z => by have := (nI_ltI (b := 10) (by omega) (by decide)).mp z; omega)).trans ?_)
        exact if_neg (fun z => by have := (nI_ltI (by omega) (by omega)).mp z; omega)
      · rw [if_neg h10]
        exact bd (if_pos (nI_lt (b := 10) (by omega) (by decide)))
    · have em : min (k + 1) t = min k t := by omega
      rw [em]
      by_cases h10 : 10 ≤ A.snd k
      · refine bd ((if_neg (fun z => by have := (nI_ltI (b := 10) (by omega) (by decide)).mp z; omega)).trans ?_)
        exact if_pos (nI_lt (by omega) (by omega))
      · exact bd (if_pos (nI_lt (b := 10) (by omega) (by decide)))) A.len FU 0 0 (by omega) (FU_lt (by omega)) (by rw [show min 0 t = 0 by omega]; rfl)
  rw [← e]
  exact h
end GO
theorem st_goes : ∀ (S : St) (a0 : Int32) (a1 : Int32), Inv S → ∃ (r : Int32) (S1 : St) (S2 : St), X10_goes S a0 a1 = some (r, S1) ∧ X11_goes S1 a0 a1 = some (r, S2) ∧ Inv S2 := by
  intro S a b hI
  obtain ⟨⟨A, hw, hx, hm⟩, -, ht, -, hr⟩ := id hI
  have hn := hw.1
  by_cases h1 : 0 ≤ a.toInt ∧ a.toInt < A.n
  · by_cases h2 : 0 ≤ b.toInt ∧ b.toInt ≤ 7
    · obtain ⟨r, hr1, rfl⟩ := i_nat h1.1 h1.2
      obtain ⟨c, hc, rfl⟩ := i_nat (x := b) (n := 8) h2.1 (by omega)
      obtain ⟨T, p, t1, t2, t3, t4, t5, t6⟩ := tell_ok hx hw hr (c := c) (by omega)
      have hxT : HX T 1 A := hx.un t2 (fun k hk => by simp <;> omega)
      have hmT : HM T 61 0 62 0 A := hm.un t2 (by decide) (by decide)
      obtain ⟨U, u1, u2, u3⟩ := mtell_ok hmT hw (c := c) (by omega)
      have hmU : HM U 61 0 62 0 A := hmT.un u2 (by decide) (by decide)
      have hu : Un [32, 33, 34, 67, 68] S U := (t2.mono (by simp)).trs (u2.mono (by simp))
      have hIU : Inv U := hI.g hu (by decide) hw (hx.un hu (fun k hk => by simp <;> omega)) (hm.un hu (by decide) (by decide)) (ht.un hu ((hu 11 (by decide)).1 0) ((hu 60 (by decide)).1 5) (by decide) (by decide)) (t3.un u2 (by decide) (by decide))
      have ek : X9_knownTo T (nI r) = some (kI A c r) := by
        unfold X9_knownTo
        rw [t5]
        exact bd ((ldA_s T p r (w34 t4).1 rfl (by rw [(w34 t4).2]; omega)).trans (congrArg some (t6 r hr1)))
      have eX : X10_goes S (nI r) (nI c) = if A.val r 0 = 5 then some (-4, T) else if nI (mask (uc A) A.n) &&& (kI A c r ^^^ (-1)) = 0 then some (nI (bl A (min A.len (lbf A 63 A.n))), T) else some (-4, T) := by
        unfold X10_goes
        rw [hasG hx hn, if_pos h1, gd (nI c) 0 7 0 7, if_pos h2, uncut_ok hx hw]
        refine (bd t1).trans ?_
        by_cases hcut : A.val r 0 = 5
        · rw [if_pos hcut]
          refine (bd ((isCut_ok hxT hw hr1).trans (congrArg some (if_pos hcut)))).trans ?_
          exact if_neg (by decide)
        · rw [if_neg hcut]
          refine (bd ((isCut_ok hxT hw hr1).trans (congrArg some (if_neg hcut)))).trans ?_
          refine (if_pos rfl).trans ?_
          refine (bd ek).trans ?_
          have el := leastBeat_ok hxT hw
          have hle := lbf_le A 63 A.n
          have eb := behind_ok hxT hw hle
          show (if nI (mask (uc A) A.n) &&& (kI A c r ^^^ (-1)) = 0 then (X6_leastBeat T (nI (mask (uc A) A.n))).bind fun x17 => (X5_behindLastBreath T x17).bind fun x19 => some (x19, T) else some (-4, T)) = _
          rw [el]
          show (if nI (mask (uc A) A.n) &&& (kI A c r ^^^ (-1)) = 0 then (X5_behindLastBreath T (nI (lbf A 63 A.n))).bind fun x19 => some (x19, T) else some (-4, T)) = _
          rw [eb]
          rfl
      have eM : X11_goes T (nI r) (nI c) = if A.val r 0 = 5 then some (-4, U) else if nI (mask (uc A) A.n) &&& (kI A c r ^^^ (-1)) = 0 then some (nI (bl A (min A.len (lbf A 64 A.n))), U) else some (-4, U) := by
        unfold X11_goes
        rw [roomG hmT hn, if_pos h1, md T (nI c) 0 7 0 7, if_pos h2]
        refine (bd u1).trans ?_
        refine (bd (mgo1 hmU hw (nI r))).trans ?_
        by_cases hcut : A.val r 0 = 5
        · rw [if_pos hcut]
          refine (bd ((misCut_ok hmU hw hr1).trans (congrArg some (if_pos hcut)))).trans ?_
          exact if_neg (by decide)
        · rw [if_neg hcut]
          refine (bd ((misCut_ok hmU hw hr1).trans (congrArg some (if_neg hcut)))).trans ?_
          refine (if_pos rfl).trans ?_
          refine (bd ((ldA_s U 67 r rfl rfl (by show _ < 8; omega)).trans (congrArg some (u3 r hr1)))).trans ?_
          have hle := lbf_le A 64 A.n
          rw [mgo2 hmU hw hle]
          by_cases hk : nI (mask (uc A) A.n) &&& (kI A c r ^^^ (-1)) = 0
          · rw [if_pos hk, if_pos ((and_not _ _).mp hk)]
            rfl
          · rw [if_neg hk, if_neg (fun z => hk ((and_not _ _).mpr z))]
      by_cases hcut : A.val r 0 = 5
      · exact ⟨-4, T, U, by rw [eX, if_pos hcut], by rw [eM, if_pos hcut], hIU⟩
      · by_cases hk : nI (mask (uc A) A.n) &&& (kI A c r ^^^ (-1)) = 0
        · have e64 : lbf A 63 A.n = lbf A 64 A.n := by
            have := lbf_at A (r := r) (by simp [hcut]) A.n hr1
            have hv : A.val r 5 ≤ 63 := hw.2.1 r 5 hr1 (by omega)
            rw [lbf_min]
            omega
          refine ⟨nI (bl A (min A.len (lbf A 64 A.n))), T, U, ?_, ?_, hIU⟩
          · rw [eX, if_neg hcut, if_pos hk, e64]
          · rw [eM, if_neg hcut, if_pos hk]
        · exact ⟨-4, T, U, by rw [eX, if_neg hcut, if_neg hk], by rw [eM, if_neg hcut, if_neg hk], hIU⟩
    · refine ⟨-1, S, S, ?_, ?_, hI⟩
      · unfold X10_goes
        rw [hasG hx hn, if_pos h1, gd b 0 7 0 7, if_neg h2]
      · unfold X11_goes
        rw [roomG hm hn, if_pos h1, md S b 0 7 0 7, if_neg h2]
  · refine ⟨-1, S, S, ?_, ?_, hI⟩
    · unfold X10_goes
      rw [hasG hx hn, if_neg h1]
    · unfold X11_goes
      rw [roomG hm hn, if_neg h1]
