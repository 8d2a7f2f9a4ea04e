/-! time, paceAt, slows, apart -/
theorem pop_cb : ∀ l, l < 256 → pop l = cb l.testBit 8 ∧ (l ≠ 0 → cb l.testBit 8 ≠ 0) := by
  intro l hl
  have key : (List.range 256).all (fun l => decide (pop l = cb l.testBit 8) && (decide (l = 0) || decide (cb l.testBit 8 ≠ 0))) = true := by decide +kernel
  have h := List.all_eq_true.mp key l (List.mem_range.mpr hl)
  simp only [Bool.and_eq_true, Bool.or_eq_true, decide_eq_true_eq] at h
  exact ⟨h.1, fun z => h.2.resolve_left z⟩
theorem cb_cut (p : Nat → Bool) (n : Nat) : ∀ m, n ≤ m → cb (fun t => decide (t < n) && p t) m = cb p n
  | 0, h => by
    have : n = 0 := by omega
    subst this
    rfl
  | m + 1, h => by
    by_cases hn : n = m + 1
    · subst hn
      refine cb_cong _ (fun k hk => ?_)
      rw [decide_eq_true hk, Bool.true_and]
    · have := cb_cut p n m (by omega)
      show cb _ m + (if (decide (m < n) && p m) then 1 else 0) = _
      rw [this, decide_eq_false (show ¬ m < n by omega), Bool.false_and, if_neg (by decide)]
      rfl
theorem pop_mask (p : Nat → Bool) {n : Nat} (hn : n ≤ 8) : pop (mask p n) = cb p n ∧ (mask p n ≠ 0 → cb p n ≠ 0) := by
  obtain ⟨h1, h2⟩ := pop_cb (mask p n) (mask8 p hn)
  have e : cb (mask p n).testBit 8 = cb p n := by
    rw [← cb_cut p n 8 hn]
    exact cb_cong 8 (fun k _ => mask_tb p k n)
  rw [e] at h1 h2
  exact ⟨h1, h2⟩
section TI
variable {S : St} {A : Ch}
def PS (A : Ch) (same c k : Nat) : Int32 := fo (fun r (v : Int32) => if sg A r = true then v + (tm A same c r - tm A same (c - 1) r) else v) 0 k 0
def pc (A : Ch) (same c : Nat) : Int32 := if cb (sg A) A.n = 0 then 0 else PS A same c A.n / nI (cb (sg A) A.n)
theorem sgt {r : Nat} : sg A r = true ↔ A.val r 0 < 4 := by simp
theorem meanPace_ok (hx : HX S 1 A) (hw : Wf A) {same c p q : Nat} (hp : p = 25 ∨ p = 26) (hq : q = 25 ∨ q = 26) (h0 : rR S 24 0 = p) (h1 : rR S 24 1 = q) (hk : ∀ r, r < A.n → A.val r 0 < 4 → rI S p r = tm A same c r) (hk2 : ∀ r, r < A.n → A.val r 0 < 4 → rI S q r = tm A same (c - 1) r) : X0_meanPace S = some (pc A same c) := by
  have hn := hw.1
  have hcb := cb_le (sg A) A.n
  obtain ⟨t, ht, e⟩ := forG (fun m k (s : Int32 × Int32) => X0_meanPace_L7 S m s.1 s.2 (nI k)) A.n (fun k s => s = (PS A same c k, nI (cb (sg A) k))) (fun t => t = (PS A same c A.n, nI (cb (sg A) A.n))) (fun m s hp => ⟨(s.1, s.2), if_pos (xle hx hw), hp⟩) (fun m k s hk' hp' => by
    right
    refine ⟨(PS A same c (k + 1), nI (cb (sg A) (k + 1))), ?_, rfl⟩
    show X0_meanPace_L7 S (m + 1) s.1 s.2 (nI k) = X0_meanPace_L7 S m (PS A same c (k + 1)) (nI (cb (sg A) (k + 1))) (nI (k + 1))
    rw [hp']
    refine (if_neg (xnle hx hw hk')).trans ?_
    have es : PS A same c (k + 1) = if sg A k = true then PS A same c k + (tm A same c k - tm A same (c - 1) k) else PS A same c k := by
      show fo _ 0 (k + 1) 0 = _
      rw [fo_succ, Nat.zero_add]
      rfl
    rw [← nI_1 k]
    by_cases hs : A.val k 0 < 4
    · have hsg : sg A k = true := sgt.mpr hs
      refine (bd ((sings_ok hx hw hk').trans (congrArg some (if_pos hs)))).trans ?_
      rw [es, if_pos hsg, cb_y hsg, if_neg (by decide), h0, h1]
      have e5 : ((ldA S p (nI k)).bind fun x9 => (ldA S q (nI k)).bind fun x11 => some ((PS A same c k + (x9 - x11)), (nI (cb (sg A) k) + 1))) = some (PS A same c k + (tm A same c k - tm A same (c - 1) k), nI (cb (sg A) k + 1)) := by
        refine (bd ((ldA_s S p k (w25 hp).1 rfl (by rw [(w25 hp).2]; omega)).trans (congrArg some (hk k hk' hs)))).trans ?_
        refine (bd ((ldA_s S q k (w25 hq).1 rfl (by rw [(w25 hq).2]; omega)).trans (congrArg some (hk2 k hk' hs)))).trans ?_
        rw [nI_1]
      exact bd e5
    · have hsg : ¬ sg A k = true := fun z => hs (sgt.mp z)
      refine (bd ((sings_ok hx hw hk').trans (congrArg some (if_neg hs)))).trans ?_
      rw [es, if_neg hsg, cb_n hsg]
      exact bd (if_pos rfl)) A.n FU 0 (0, 0) (by omega) (FU_lt (by omega)) rfl
  have ht : X0_meanPace_L7 S FU 0 0 0 = some t := ht
  unfold X0_meanPace
  rw [ht, e]
  show (if nI (cb (sg A) A.n) = 0 then some 0 else (dvO (PS A same c A.n) (nI (cb (sg A) A.n))).bind fun x17 => some x17) = _
  unfold pc
  by_cases h0 : cb (sg A) A.n = 0
  · rw [if_pos h0]
    exact if_pos ((n0 (by omega)).1.mpr h0)
  · rw [if_neg h0]
    have hn0 : ¬ nI (cb (sg A) A.n) = 0 := fun z => h0 ((n0 (by omega)).1.mp z)
    refine (if_neg hn0).trans ?_
    unfold dvO
    rw [if_neg hn0]
    rfl
theorem paceBy_ok (hm : HM S 61 0 62 0 A) (hw : Wf A) {same c : Nat} (hc : c < 40) (hsm : same ≤ 400) (h0 : mask (sg A) A.n ≠ 0) : ∃ T, X11_paceBy S (nI (c + 1)) (nI same) = some (pc A same (c + 1), T) ∧ Un [63] S T := by
  have hn := hw.1
  obtain ⟨T, t1, t2, t3⟩ := lays_ok hm hw (same := same) (c := c + 1) (by omega) hsm
  have hmT : HM T 61 0 62 0 A := hm.un t2 (by decide) (by decide)
  have hm8 := mask8 (sg A) hn
  have hcb := cb_le (sg A) A.n
  obtain ⟨pm1, pm2⟩ := pop_mask (sg A) hn
  obtain ⟨t, ht, e⟩ := forG (fun m k (s : Int32) => X11_paceBy_L17 T (nI (c + 1)) (nI (mask (sg A) A.n)) m s (nI k)) A.n (fun k s => s = PS A same (c + 1) k) (fun t => t = PS A same (c + 1) A.n) (fun m s hp => ⟨s, (bd (rooms_ok hmT)).trans (if_pos (mle hw)), hp⟩) (fun m k s hk hp => by
    right
    refine ⟨PS A same (c + 1) (k + 1), ?_, rfl⟩
    show X11_paceBy_L17 T (nI (c + 1)) (nI (mask (sg A) A.n)) (m + 1) s (nI k) = X11_paceBy_L17 T (nI (c + 1)) (nI (mask (sg A) A.n)) m (PS A same (c + 1) (k + 1)) (nI (k + 1))
    rw [hp]
    refine (bd (rooms_ok hmT)).trans ?_
    refine (if_neg (mnle hw hk)).trans ?_
    have es : PS A same (c + 1) (k + 1) = if sg A k = true then PS A same (c + 1) k + (tm A same (c + 1) k - tm A same (c + 1 - 1) k) else PS A same (c + 1) k := by
      show fo _ 0 (k + 1) 0 = _
      rw [fo_succ, Nat.zero_add]
      rfl
    have b := bit8 hm8 (t := k) (by omega)
    have hb : (mask (sg A) A.n).testBit k = sg A k := by rw [mask_tb]; simp [hk]
    rw [hb] at b
    rw [← nI_1 k]
    by_cases hsg : sg A k = true
    · have hs := sgt.mp hsg
      rw [es, if_pos hsg, if_pos (b.2.mpr hsg)]
      have e5 : ((ldA T 63 ((8 * nI (c + 1)) + nI k)).bind fun x12 => (ldA T 63 ((8 * (nI (c + 1) - 1)) + nI k)).bind fun x14 => some (x12 - x14)) = some (tm A same (c + 1) k - tm A same (c + 1 - 1) k) := by
        refine (bd ((ldA_s T 63 (8 * (c + 1) + k) rfl (ix2' 8 (c + 1) k) (by show _ < 328; omega)).trans (congrArg some (t3 (c + 1) k (by omega) hk hs)))).trans ?_
        rw [nI_pred]
        exact bd ((ldA_s T 63 (8 * c + k) rfl (ix2' 8 c k) (by show _ < 328; omega)).trans (congrArg some (t3 c k (by omega) hk hs)))
      exact bd e5
    · rw [es, if_neg hsg, if_neg (fun z => hsg (b.2.mp z))]
      refine (bd (rfl : some (0 : Int32) = some 0)).trans ?_
      rw [Int32.add_zero]) A.n FU 0 0 (by omega) (FU_lt (by omega)) rfl
  have ht : X11_paceBy_L17 T (nI (c + 1)) (nI (mask (sg A) A.n)) FU 0 0 = some t := ht
  refine ⟨T, ?_, t2⟩
  unfold X11_paceBy
  refine (bd t1).trans ?_
  refine (bd (msingers_ok hmT hw)).trans ?_
  refine (bd ht).trans ?_
  refine (bd (size_ok T hm8)).trans ?_
  have hcb0 := pm2 h0
  rw [e, pm1]
  unfold pc
  rw [if_neg hcb0]
  have hn0 : ¬ nI (cb (sg A) A.n) = 0 := fun z => hcb0 ((n0 (by omega)).1.mp z)
  unfold dvO
  rw [if_neg hn0]
  rfl
end TI
theorem Tp.keep {S S' : St} {L : List Nat} (h : Tp S) (hu : Un L S S') (hL : (11 ∉ L ∧ 60 ∉ L) ∧ 14 ∉ L ∧ 65 ∉ L) : Tp S' := h.un hu ((hu 11 hL.1.1).1 0) ((hu 60 hL.1.2).1 5) hL.2.1 hL.2.2
theorem inv_t {S T U : St} (hI : Inv S) (h1 : Un [24, 25, 26, 27, 28, 29] S T) (hr : Rf T) (h2 : Un [63] T U) : Inv U := by
  obtain ⟨⟨A, hw, hx, hm⟩, -, ht, -, -⟩ := id hI
  have hu : Un [24, 25, 26, 27, 28, 29, 63] S U := (h1.mono (by simp)).trs (h2.mono (by simp))
  exact hI.g hu (by decide) hw (hx.un hu (fun k hk => by simp <;> omega)) (hm.un hu (by decide) (by decide)) (ht.keep hu (by decide)) (hr.un h2 (by decide) (by decide))
theorem st_time : ∀ (S : St) (a0 : Int32) (a1 : Int32), Inv S → ∃ (r : Int32) (S1 : St) (S2 : St), X10_time S a0 a1 = some (r, S1) ∧ X11_time S1 a0 a1 = some (r, S2) ∧ Inv S2 := by
  intro S a b hI
  obtain ⟨⟨A, hw, hx, hm⟩, -, ht, -, hrf⟩ := id hI
  have hn := hw.1
  by_cases h1 : 0 ≤ a.toInt ∧ a.toInt < A.n
  · by_cases h2 : 0 ≤ b.toInt ∧ b.toInt ≤ 40
    · obtain ⟨r, hr1, rfl⟩ := i_nat h1.1 h1.2
      obtain ⟨c, hc, rfl⟩ := i_nat (x := b) (n := 41) h2.1 (by omega)
      by_cases hs : A.val r 0 < 4
      · obtain ⟨S1, s1, s2, s3⟩ := listen_ok hx hw
        have hx1 : HX S1 1 A := hx.un s2 (fun k hk => by simp <;> omega)
        obtain ⟨T, p, q, t1, t2, t3, t4, t5, t6, t7, t8, t9⟩ := singTo_ok hx1 hw (hrf.un s2 (by decide) (by decide)) (same := 0) (c := c) (by omega) (by omega) s3
        have hST : Un [24, 25, 26, 27, 28, 29] S T := (s2.mono (by simp)).trs (t2.mono (by simp))
        have hmT : HM T 61 0 62 0 A := hm.un hST (by decide) (by decide)
        obtain ⟨U, u1, u2, u3⟩ := lays_ok hmT hw (same := 0) (c := c) (by omega) (by omega)
        refine ⟨tm A 0 c r, T, U, ?_, ?_, inv_t hI hST t3 u2⟩
        · unfold X10_time
          rw [hasG hx hn, if_pos h1, gd (nI c) 0 40 0 40, if_pos h2]
          refine (bd ((sings_ok hx hw hr1).trans (congrArg some (if_pos hs)))).trans ?_
          refine (if_neg (by decide)).trans ?_
          refine (bd s1).trans ?_
          refine (bd t1).trans ?_
          have : X0_timeOf T (nI r) = some (tm A 0 c r) := by
            unfold X0_timeOf
            rw [t6]
            exact bd ((ldA_s T p r (w25 t4).1 rfl (by rw [(w25 t4).2]; omega)).trans (congrArg some (t8 r hr1 hs)))
          exact bd this
        · unfold X11_time
          rw [roomG hmT hn, if_pos h1, md T (nI c) 0 40 0 40, if_pos h2]
          refine (bd ((msings_ok hmT hw hr1).trans (congrArg some (if_pos hs)))).trans ?_
          refine (if_neg (by decide)).trans ?_
          refine (bd u1).trans ?_
          exact bd ((ldA_s U 63 (8 * c + r) rfl (ix2' 8 c r) (by show _ < 328; omega)).trans (congrArg some (u3 c r (Nat.le_refl c) hr1 hs)))
      · refine ⟨-1000004, S, S, ?_, ?_, hI⟩
        · unfold X10_time
          rw [hasG hx hn, if_pos h1, gd (nI c) 0 40 0 40, if_pos h2]
          refine (bd ((sings_ok hx hw hr1).trans (congrArg some (if_neg hs)))).trans ?_
          exact if_pos rfl
        · unfold X11_time
          rw [roomG hm hn, if_pos h1, md S (nI c) 0 40 0 40, if_pos h2]
          refine (bd ((msings_ok hm hw hr1).trans (congrArg some (if_neg hs)))).trans ?_
          exact if_pos rfl
    · refine ⟨-1000001, S, S, ?_, ?_, hI⟩
      · unfold X10_time
        rw [hasG hx hn, if_pos h1, gd b 0 40 0 40, if_neg h2]
      · unfold X11_time
        rw [roomG hm hn, if_pos h1, md S b 0 40 0 40, if_neg h2]
  · refine ⟨-1000001, S, S, ?_, ?_, hI⟩
    · unfold X10_time
      rw [hasG hx hn, if_neg h1]
    · unfold X11_time
      rw [roomG hm hn, if_neg h1]
theorem st_paceAt : ∀ (S : St) (a0 : Int32), Inv S → ∃ (r : Int32) (S1 : St) (S2 : St), X10_paceAt S a0 = some (r, S1) ∧ X11_paceAt S1 a0 = some (r, S2) ∧ Inv S2 := by
  intro S a hI
  obtain ⟨⟨A, hw, hx, hm⟩, -, ht, -, hrf⟩ := id hI
  have hn := hw.1
  have hm8 := mask8 (sg A) hn
  by_cases h1 : 1 ≤ a.toInt ∧ a.toInt ≤ 40
  · obtain ⟨c', hc', rfl⟩ := i_nat (x := a) (n := 41) (by omega) (by omega)
    obtain ⟨c, rfl⟩ : ∃ c, c' = c + 1 := ⟨c' - 1, by have := h1.1; rw [nT (by omega)] at this; omega⟩
    by_cases h0 : mask (sg A) A.n = 0
    · refine ⟨-4, S, S, ?_, ?_, hI⟩
      · unfold X10_paceAt
        rw [gd (nI (c + 1)) 1 40 1 40, if_pos h1, singers_ok hx hw, h0]
        rfl
      · unfold X11_paceAt
        rw [md S (nI (c + 1)) 1 40 1 40, if_pos h1, msingers_ok hm hw, h0]
        rfl
    · have hn0 : ¬ nI (mask (sg A) A.n) = 0 := fun z => h0 ((n0 (by omega)).1.mp z)
      obtain ⟨S1, s1, s2, s3⟩ := listen_ok hx hw
      have hx1 : HX S1 1 A := hx.un s2 (fun k hk => by simp <;> omega)
      obtain ⟨T, p, q, t1, t2, t3, t4, t5, t6, t7, t8, t9⟩ := singTo_ok hx1 hw (hrf.un s2 (by decide) (by decide)) (same := 0) (c := c + 1) (by omega) (by omega) s3
      have hST : Un [24, 25, 26, 27, 28, 29] S T := (s2.mono (by simp)).trs (t2.mono (by simp))
      have hmT : HM T 61 0 62 0 A := hm.un hST (by decide) (by decide)
      have hxT : HX T 1 A := hx.un hST (fun k hk => by simp <;> omega)
      have mp := meanPace_ok hxT hw t4 t5 t6 t7 t8 (t9 (by omega))
      obtain ⟨U, u1, u2⟩ := paceBy_ok hmT hw (same := 0) (c := c) (by omega) (by omega) h0
      refine ⟨pc A 0 (c + 1), T, U, ?_, ?_, inv_t hI hST t3 u2⟩
      · unfold X10_paceAt
        rw [gd (nI (c + 1)) 1 40 1 40, if_pos h1, singers_ok hx hw]
        refine (if_neg hn0).trans ?_
        refine (bd s1).trans ?_
        refine (bd t1).trans ?_
        exact bd mp
      · unfold X11_paceAt
        rw [md T (nI (c + 1)) 1 40 1 40, if_pos h1, msingers_ok hmT hw]
        refine (if_neg hn0).trans ?_
        have u1 : X11_paceBy T (nI (c + 1)) 0 = some (pc A 0 (c + 1), U) := u1
        rw [u1]
        rfl
  · exact ⟨-1, S, S, by unfold X10_paceAt; rw [gd a 1 40 1 40, if_neg h1], by unfold X11_paceAt; rw [md S a 1 40 1 40, if_neg h1], hI⟩
/-- the first delay from which on it is slow -/
def fs (A : Ch) (v : Int32) (c : Nat) : Nat → Nat → Option Nat
  | 0, _ => none
  | m + 1, k => if pc A (k + 1) c ≤ v then fs A v c m (k + 1) else some (k + 1)
section SL
variable {S : St} {A : Ch}
theorem slow_x (hw : Wf A) {c : Nat} (hc : c < 40) (v : Int32) : ∀ m fu k T s0, k + m = 400 → m < fu → HX T 1 A → Rf T → (∀ r, r < A.n → Lr A s0 T r A.n) → ∃ T', X10_slows_L55 (nI (c + 1)) v fu (nI (k + 1)) T = some (outX (fs A v (c + 1) m k) T') ∧ Un [24, 25, 26, 27, 28, 29] T T' ∧ Rf T' := by
  intro m
  induction m with
  | zero =>
    intro fu k T s0 hk hfu hx hrf hl
    obtain ⟨fu, rfl⟩ : ∃ n, fu = n + 1 := ⟨fu - 1, by omega⟩
    have hk : k = 400 := hk
    subst hk
    exact ⟨T, if_pos (by decide), Un.rf _ _, hrf⟩
  | succ m ih =>
    intro fu k T s0 hk hfu hx hrf hl
    obtain ⟨fu, rfl⟩ : ∃ n, fu = n + 1 := ⟨fu - 1, by omega⟩
    obtain ⟨S1, s1, s2, s3⟩ := stretch_ok hx hw (same := k + 1) (by omega) hl
    have hx1 : HX S1 1 A := hx.un s2 (fun k hk => by simp <;> omega)
    obtain ⟨T2, p, q, t1, t2, t3, t4, t5, t6, t7, t8, t9⟩ := singTo_ok hx1 hw (hrf.un s2 (by decide) (by decide)) (same := k + 1) (c := c + 1) (by omega) (by omega) s3
    have hT2 : Un [24, 25, 26, 27, 28, 29] T T2 := (s2.mono (by simp)).trs (t2.mono (by simp))
    have hx2 : HX T2 1 A := hx.un hT2 (fun k hk => by simp <;> omega)
    have mp := meanPace_ok hx2 hw t4 t5 t6 t7 t8 (t9 (by omega))
    have e0 : X10_slows_L55 (nI (c + 1)) v (fu + 1) (nI (k + 1)) T = if pc A (k + 1) (c + 1) ≤ v then X10_slows_L55 (nI (c + 1)) v fu (nI (k + 1 + 1)) T2 else some (.inr (nI (k + 1), T2)) := by
      refine (if_neg (fun z => by have := (nI_ltI (a := 400) (by decide) (by omega)).mp z; omega)).trans ?_
      refine (bd s1).trans ?_
      refine (bd t1).trans ?_
      refine (bd mp).trans ?_
      rw [nI_1 (k + 1)]
    rw [e0, show fs A v (c + 1) (m + 1) k = if pc A (k + 1) (c + 1) ≤ v then fs A v (c + 1) m (k + 1) else some (k + 1) from rfl]
    by_cases hp : pc A (k + 1) (c + 1) ≤ v
    · rw [if_pos hp, if_pos hp]
      obtain ⟨T', a1, a2, a3⟩ := ih fu (k + 1) T2 (k + 1) (by omega) (by omega) hx2 t3 (fun r hr => (s3 r hr).un t2 (by decide) (by decide) (by decide))
      exact ⟨T', a1, hT2.trs a2, a3⟩
    · rw [if_neg hp, if_neg hp]
      exact ⟨T2, rfl, hT2, t3⟩
theorem slow_m (hw : Wf A) {c : Nat} (hc : c < 40) (h0 : mask (sg A) A.n ≠ 0) (v : Int32) : ∀ m fu k T, k + m = 400 → m < fu → HM T 61 0 62 0 A → ∃ T', X11_slows_L28 (nI (c + 1)) v fu (nI (k + 1)) T = some (outX (fs A v (c + 1) m k) T') ∧ Un [63] T T' := by
  have hm8 := mask8 (sg A) hw.1
  intro m
  induction m with
  | zero =>
    intro fu k T hk hfu hm
    obtain ⟨fu, rfl⟩ : ∃ n, fu = n + 1 := ⟨fu - 1, by omega⟩
    have hk : k = 400 := hk
    subst hk
    exact ⟨T, if_pos (by decide), Un.rf _ _⟩
  | succ m ih =>
    intro fu k T hk hfu hm
    obtain ⟨fu, rfl⟩ : ∃ n, fu = n + 1 := ⟨fu - 1, by omega⟩
    obtain ⟨T2, t1, t2⟩ := paceBy_ok hm hw (same := k + 1) (c := c) hc (by omega) h0
    have e0 : X11_slows_L28 (nI (c + 1)) v (fu + 1) (nI (k + 1)) T = if pc A (k + 1) (c + 1) ≤ v then X11_slows_L28 (nI (c + 1)) v fu (nI (k + 1 + 1)) T2 else some (.inr (nI (k + 1), T2)) := by
      refine (if_neg (fun z => by have := (nI_ltI (a := 400) (by decide) (by omega)).mp z; omega)).trans ?_
      refine (bd (msingers_ok hm hw)).trans ?_
      refine (if_neg (fun z => h0 ((n0 (by omega)).2.mp z))).trans ?_
      refine (bd t1).trans ?_
      rw [nI_1 (k + 1)]
    rw [e0, show fs A v (c + 1) (m + 1) k = if pc A (k + 1) (c + 1) ≤ v then fs A v (c + 1) m (k + 1) else some (k + 1) from rfl]
    by_cases hp : pc A (k + 1) (c + 1) ≤ v
    · rw [if_pos hp, if_pos hp]
      obtain ⟨T', a1, a2⟩ := ih fu (k + 1) T2 (by omega) (by omega) (hm.un t2 (by decide) (by decide))
      exact ⟨T', a1, t2.trs a2⟩
    · rw [if_neg hp, if_neg hp]
      exact ⟨T2, rfl, t2⟩
end SL
theorem st_slows : ∀ (S : St) (a0 : Int32) (a1 : Int32), Inv S → ∃ (r : Int32) (S1 : St) (S2 : St), X10_slows S a0 a1 = some (r, S1) ∧ X11_slows S1 a0 a1 = some (r, S2) ∧ Inv S2 := by
  intro S a v hI
  obtain ⟨⟨A, hw, hx, hm⟩, -, ht, -, hrf⟩ := id hI
  have hn := hw.1
  have hm8 := mask8 (sg A) hn
  by_cases h1 : 1 ≤ a.toInt ∧ a.toInt ≤ 40
  · by_cases h2 : 0 ≤ v.toInt ∧ v.toInt ≤ 99999
    · obtain ⟨c', hc', rfl⟩ := i_nat (x := a) (n := 41) (by omega) (by omega)
      obtain ⟨c, rfl⟩ : ∃ c, c' = c + 1 := ⟨c' - 1, by have := h1.1; rw [nT (by omega)] at this; omega⟩
      by_cases h0 : mask (sg A) A.n = 0
      · refine ⟨-4, S, S, ?_, ?_, hI⟩
        · unfold X10_slows
          rw [gd2 (nI (c + 1)) 1 40 1 40, if_pos h1, gd v 0 99999 0 99999, if_pos h2, singers_ok hx hw, h0]
          rfl
        · unfold X11_slows
          rw [md S (nI (c + 1)) 1 40 1 40, if_pos h1, md S v 0 99999 0 99999, if_pos h2]
          have : X11_slows_L28 (nI (c + 1)) v FU 1 S = some (.inl S) := by
            refine (if_neg (by decide)).trans ?_
            refine (bd (msingers_ok hm hw)).trans ?_
            rw [h0]
            exact if_pos (by decide)
          rw [this]
          rfl
      · have hn0 : ¬ nI (mask (sg A) A.n) = 0 := fun z => h0 ((n0 (by omega)).1.mp z)
        obtain ⟨S1, s1, s2, s3⟩ := listen_ok hx hw
        have hx1 : HX S1 1 A := hx.un s2 (fun k hk => by simp <;> omega)
        obtain ⟨T, t1, t2, t3⟩ := slow_x hw (c := c) (by omega) v 400 FU 0 S1 0 (by omega) (FU_lt (by omega)) hx1 (hrf.un s2 (by decide) (by decide)) s3
        have t1 : X10_slows_L55 (nI (c + 1)) v FU 1 S1 = some (outX (fs A v (c + 1) 400 0) T) := t1
        have hST : Un [24, 25, 26, 27, 28, 29] S T := (s2.mono (by simp)).trs t2
        have hmT : HM T 61 0 62 0 A := hm.un hST (by decide) (by decide)
        obtain ⟨U, u1, u2⟩ := slow_m hw (c := c) (by omega) h0 v 400 FU 0 T (by omega) (FU_lt (by omega)) hmT
        have u1 : X11_slows_L28 (nI (c + 1)) v FU 1 T = some (outX (fs A v (c + 1) 400 0) U) := u1
        refine ⟨match fs A v (c + 1) 400 0 with | none => -4 | some j => nI j, T, U, ?_, ?_, inv_t hI hST t3 u2⟩
        · unfold X10_slows
          rw [gd2 (nI (c + 1)) 1 40 1 40, if_pos h1, gd v 0 99999 0 99999, if_pos h2, singers_ok hx hw]
          refine (if_neg hn0).trans ?_
          refine (bd s1).trans ?_
          rw [t1]
          cases fs A v (c + 1) 400 0 <;> rfl
        · unfold X11_slows
          rw [md T (nI (c + 1)) 1 40 1 40, if_pos h1, md T v 0 99999 0 99999, if_pos h2, u1]
          cases fs A v (c + 1) 400 0 <;> rfl
    · refine ⟨-1, S, S, ?_, ?_, hI⟩
      · unfold X10_slows
        rw [gd2 a 1 40 1 40, if_pos h1, gd v 0 99999 0 99999, if_neg h2]
      · unfold X11_slows
        rw [md S a 1 40 1 40, if_pos h1, md S v 0 99999 0 99999, if_neg h2]
  · refine ⟨-1, S, S, ?_, ?_, hI⟩
    · unfold X10_slows
      rw [gd2 a 1 40 1 40, if_neg h1]
    · unfold X11_slows
      rw [md S a 1 40 1 40, if_neg h1]
section AP
variable {S : St} {A : Ch}
def lo_ (A : Ch) (t : Nat → Int32) (k : Nat) : Int32 := fo (fun r (v : Int32) => if sg A r = true then (if t r < v then t r else v) else v) 0 k 2147483647
def hi_ (A : Ch) (t : Nat → Int32) (k : Nat) : Int32 := fo (fun r (v : Int32) => if sg A r = true then (if v < t r then t r else v) else v) 0 k (-2147483648)
theorem lo_s (t : Nat → Int32) (k : Nat) : lo_ A t (k + 1) = if sg A k = true then (if t k < lo_ A t k then t k else lo_ A t k) else lo_ A t k := by
  show fo _ 0 (k + 1) _ = _
  rw [fo_succ, Nat.zero_add]
  rfl
theorem hi_s (t : Nat → Int32) (k : Nat) : hi_ A t (k + 1) = if sg A k = true then (if hi_ A t k < t k then t k else hi_ A t k) else hi_ A t k := by
  show fo _ 0 (k + 1) _ = _
  rw [fo_succ, Nat.zero_add]
  rfl
theorem lo_0 (t : Nat → Int32) : ∀ k, cb (sg A) k = 0 → lo_ A t k = 2147483647 ∧ hi_ A t k = -2147483648
  | 0, _ => ⟨rfl, rfl⟩
  | k + 1, h => by
    by_cases hs : sg A k = true
    · rw [cb_y hs] at h; omega
    · rw [cb_n hs] at h
      rw [lo_s, hi_s, if_neg hs, if_neg hs]
      exact lo_0 t k h
theorem min_M (x : Int32) : (if x < 2147483647 then x else 2147483647) = x ∧ (if (-2147483648 : Int32) < x then x else -2147483648) = x := by
  have r := rngI x
  refine ⟨?_, ?_⟩
  · by_cases h : x < 2147483647
    · rw [if_pos h]
    · rw [if_neg h]
      have : ¬ x.toInt < 2147483647 := fun z => h ((i_lt x 2147483647 2147483647).mpr z)
      exact ((i_eq x 2147483647 2147483647).mpr (by omega)).symm
  · by_cases h : (-2147483648 : Int32) < x
    · rw [if_pos h]
    · rw [if_neg h]
      have : ¬ (-2147483648 : Int) < x.toInt := fun z => h ((i_gt x (-2147483648) (-2147483648)).mpr z)
      exact ((i_eq x (-2147483648) (-2147483648)).mpr (by omega)).symm
theorem spread_ok (hx : HX S 1 A) (hw : Wf A) {p : Nat} (hp : p = 25 ∨ p = 26) (h0 : rR S 24 0 = p) (t : Nat → Int32) (hk : ∀ r, r < A.n → A.val r 0 < 4 → rI S p r = t r) (hm0 : mask (sg A) A.n ≠ 0) : X0_spread S = some (hi_ A t A.n - lo_ A t A.n) := by
  have hn := hw.1
  obtain ⟨r, ht, e⟩ := forG (fun m k (s : Int32 × Int32 × Int32) => X0_spread_L10 S m s.1 s.2.1 s.2.2 (nI k)) A.n (fun k s => (cb (sg A) k = 0 ∧ s.1 = 0) ∨ (cb (sg A) k ≠ 0 ∧ s = (1, lo_ A t k, hi_ A t k))) (fun r => cb (sg A) A.n ≠ 0 → r = (lo_ A t A.n, hi_ A t A.n)) (fun m s hp' => ⟨(s.2.1, s.2.2), if_pos (xle hx hw), fun z => by
      rcases hp' with ⟨q, -⟩ | ⟨-, q⟩
      · exact absurd q z
      · rw [q]⟩) (fun m k s hk' hp' => by
    right
    by_cases hs : A.val k 0 < 4
    · have hsg : sg A k = true := sgt.mpr hs
      refine ⟨(1, lo_ A t (k + 1), hi_ A t (k + 1)), ?_, Or.inr ⟨by rw [cb_y hsg]; omega, rfl⟩⟩
      show X0_spread_L10 S (m + 1) s.1 s.2.1 s.2.2 (nI k) = X0_spread_L10 S m 1 (lo_ A t (k + 1)) (hi_ A t (k + 1)) (nI (k + 1))
      refine (if_neg (xnle hx hw hk')).trans ?_
      refine (bd ((sings_ok hx hw hk').trans (congrArg some (if_pos hs)))).trans ?_
      have el : ldA S p (nI k) = some (t k) := (ldA_s S p k (w25 hp).1 rfl (by rw [(w25 hp).2]; omega)).trans (congrArg some (hk k hk' hs))
      rw [if_neg (by decide), h0, el, ← nI_1 k, lo_s, hi_s, if_pos hsg, if_pos hsg]
      rcases hp' with ⟨q, q1⟩ | ⟨-, q⟩
      · obtain ⟨l1, l2⟩ := lo_0 (A := A) t k q
        rw [l1, l2, (min_M (t k)).1, (min_M (t k)).2, q1]
        rfl
      · rw [q]
        rfl
    · have hsg : ¬ sg A k = true := fun z => hs (sgt.mp z)
      refine ⟨s, ?_, ?_⟩
      · show X0_spread_L10 S (m + 1) s.1 s.2.1 s.2.2 (nI k) = X0_spread_L10 S m s.1 s.2.1 s.2.2 (nI (k + 1))
        refine (if_neg (xnle hx hw hk')).trans ?_
        refine (bd ((sings_ok hx hw hk').trans (congrArg some (if_neg hs)))).trans ?_
        rw [← nI_1 k]
        rfl
      · show (cb (sg A) (k + 1) = 0 ∧ s.1 = 0) ∨ (cb (sg A) (k + 1) ≠ 0 ∧ s = (1, lo_ A t (k + 1), hi_ A t (k + 1)))
        rw [cb_n hsg, lo_s, hi_s, if_neg hsg, if_neg hsg]
        exact hp') A.n FU 0 (0, 0, 0) (by omega) (FU_lt (by omega)) (Or.inl ⟨rfl, rfl⟩)
  have ht : X0_spread_L10 S FU 0 0 0 0 = some r := ht
  unfold X0_spread
  rw [ht, e ((pop_mask (sg A) hn).2 hm0)]
  rfl
theorem mapart (hm : HM S 61 0 62 0 A) (hw : Wf A) {c : Nat} (hc : c ≤ 40) (t : Nat → Int32) (hk : ∀ r, r < A.n → A.val r 0 < 4 → rI S 63 (8 * c + r) = t r) (h0 : mask (sg A) A.n ≠ 0) : X11_apart_L43 S (nI c) (nI (mask (sg A) A.n)) FU 0 0 0 0 = some (lo_ A t A.n, hi_ A t A.n) := by
  have hn := hw.1
  have hm8 := mask8 (sg A) hn
  obtain ⟨r, ht, e⟩ := forG (fun m k (s : Int32 × Int32 × Int32) => X11_apart_L43 S (nI c) (nI (mask (sg A) A.n)) m s.1 s.2.1 s.2.2 (nI k)) A.n (fun k s => s.1 = nI (cb (sg A) k) ∧ (cb (sg A) k ≠ 0 → s.2 = (lo_ A t k, hi_ A t k))) (fun r => cb (sg A) A.n ≠ 0 → r = (lo_ A t A.n, hi_ A t A.n)) (fun m s hp => ⟨(s.2.1, s.2.2), (bd (rooms_ok hm)).trans (if_pos (mle hw)), hp.2⟩) (fun m k s hk' hp => by
    obtain ⟨p1, p2⟩ := hp
    right
    have b := bit8 hm8 (t := k) (by omega)
    have hb : (mask (sg A) A.n).testBit k = sg A k := by rw [mask_tb]; simp [hk']
    have hcl := cb_le (sg A) k
    rw [hb] at b
    by_cases hsg : sg A k = true
    · refine ⟨(nI (cb (sg A) (k + 1)), lo_ A t (k + 1), hi_ A t (k + 1)), ?_, rfl, fun _ => rfl⟩
      show X11_apart_L43 S (nI c) (nI (mask (sg A) A.n)) (m + 1) s.1 s.2.1 s.2.2 (nI k) = X11_apart_L43 S (nI c) (nI (mask (sg A) A.n)) m (nI (cb (sg A) (k + 1))) (lo_ A t (k + 1)) (hi_ A t (k + 1)) (nI (k + 1))
      refine (bd (rooms_ok hm)).trans ?_
      refine (if_neg (mnle hw hk')).trans ?_
      rw [if_pos (b.2.mpr hsg), ← nI_1 k, lo_s, hi_s, if_pos hsg, if_pos hsg, cb_y hsg]
      have el : ldA S 63 ((8 * nI c) + nI k) = some (t k) := (ldA_s S 63 (8 * c + k) rfl (ix2' 8 c k) (by show _ < 328; omega)).trans (congrArg some (hk k hk' (sgt.mp hsg)))
      rw [el, p1]
      have e5 : ((some (t k)).bind fun x18 => (if nI (cb (sg A) k) = 0 then some x18 else if s.2.1 ≤ x18 then some s.2.1 else some x18).bind fun x21 => (if nI (cb (sg A) k) = 0 then some x18 else if x18 ≤ s.2.2 then some s.2.2 else some x18).bind fun x25 => some ((nI (cb (sg A) k) + 1), x21, x25)) = some (nI (cb (sg A) k + 1), (if t k < lo_ A t k then t k else lo_ A t k), (if hi_ A t k < t k then t k else hi_ A t k)) := by
        refine (bd (rfl : some (t k) = some (t k))).trans ?_
        by_cases hc0 : cb (sg A) k = 0
        · obtain ⟨l1, l2⟩ := lo_0 (A := A) t k hc0
          rw [l1, l2, (min_M (t k)).1, (min_M (t k)).2, hc0]
          rfl
        · have hcn : ¬ nI (cb (sg A) k) = 0 := fun z => hc0 ((n0 (by omega)).1.mp z)
          have p2 := p2 hc0
          rw [if_neg hcn, if_neg hcn, p2]
          show ((if lo_ A t k ≤ t k then some (lo_ A t k) else some (t k)).bind fun x21 => (if t k ≤ hi_ A t k then some (hi_ A t k) else some (t k)).bind fun x25 => some ((nI (cb (sg A) k) + 1), x21, x25)) = _
          rw [some_if, some_if, i_flip (t k) (hi_ A t k), nI_1]
          have e7 : (if lo_ A t k ≤ t k then lo_ A t k else t k) = (if t k < lo_ A t k then t k else lo_ A t k) := by
            by_cases h : lo_ A t k ≤ t k
            · rw [if_pos h, if_neg (fun z => by rw [Int32.lt_iff_toInt_lt] at z; rw [Int32.le_iff_toInt_le] at h; omega)]
            · rw [if_neg h, if_pos (by rw [Int32.le_iff_toInt_le] at h; rw [Int32.lt_iff_toInt_lt]; omega)]
          rw [e7]
          rfl
      exact bd e5
    · refine ⟨s, ?_, by rw [cb_n hsg]; exact p1, fun z => ?_⟩
      · show X11_apart_L43 S (nI c) (nI (mask (sg A) A.n)) (m + 1) s.1 s.2.1 s.2.2 (nI k) = X11_apart_L43 S (nI c) (nI (mask (sg A) A.n)) m s.1 s.2.1 s.2.2 (nI (k + 1))
        refine (bd (rooms_ok hm)).trans ?_
        refine (if_neg (mnle hw hk')).trans ?_
        rw [if_neg (fun z => hsg (b.2.mp z)), ← nI_1 k]
        rfl
      · rw [cb_n hsg] at z
        rw [lo_s, hi_s, if_neg hsg, if_neg hsg]
        exact p2 z) A.n FU 0 (0, 0, 0) (by omega) (FU_lt (by omega)) ⟨rfl, fun z => absurd rfl z⟩
  have ht : X11_apart_L43 S (nI c) (nI (mask (sg A) A.n)) FU 0 0 0 0 = some r := ht
  rw [ht, e ((pop_mask (sg A) hn).2 h0)]
end AP
theorem st_apart : ∀ (S : St) (a0 : Int32), Inv S → ∃ (r : Int32) (S1 : St) (S2 : St), X10_apart S a0 = some (r, S1) ∧ X11_apart S1 a0 = some (r, S2) ∧ Inv S2 := by
  intro S a hI
  obtain ⟨⟨A, hw, hx, hm⟩, -, ht, -, hrf⟩ := id hI
  have hn := hw.1
  have hm8 := mask8 (sg A) hn
  by_cases h1 : 0 ≤ a.toInt ∧ a.toInt ≤ 40
  · obtain ⟨c, hc, rfl⟩ := i_nat (x := a) (n := 41) (by omega) (by omega)
    by_cases h0 : mask (sg A) A.n = 0
    · refine ⟨-4, S, S, ?_, ?_, hI⟩
      · unfold X10_apart
        rw [gd (nI c) 0 40 0 40, if_pos h1, singers_ok hx hw, h0]
        rfl
      · unfold X11_apart
        rw [md S (nI c) 0 40 0 40, if_pos h1, msingers_ok hm hw, h0]
        rfl
    · have hn0 : ¬ nI (mask (sg A) A.n) = 0 := fun z => h0 ((n0 (by omega)).1.mp z)
      obtain ⟨S1, s1, s2, s3⟩ := listen_ok hx hw
      have hx1 : HX S1 1 A := hx.un s2 (fun k hk => by simp <;> omega)
      obtain ⟨T, p, q, t1, t2, t3, t4, t5, t6, t7, t8, t9⟩ := singTo_ok hx1 hw (hrf.un s2 (by decide) (by decide)) (same := 0) (c := c) (by omega) (by omega) s3
      have hST : Un [24, 25, 26, 27, 28, 29] S T := (s2.mono (by simp)).trs (t2.mono (by simp))
      have hmT : HM T 61 0 62 0 A := hm.un hST (by decide) (by decide)
      have hxT : HX T 1 A := hx.un hST (fun k hk => by simp <;> omega)
      have sp := spread_ok hxT hw t4 t6 (tm A 0 c) t8 h0
      obtain ⟨U, u1, u2, u3⟩ := lays_ok hmT hw (same := 0) (c := c) (by omega) (by omega)
      have hmU : HM U 61 0 62 0 A := hmT.un u2 (by decide) (by decide)
      have ma := mapart hmU hw (c := c) (by omega) (tm A 0 c) (fun r hr hs => u3 c r (Nat.le_refl c) hr hs) h0
      refine ⟨hi_ A (tm A 0 c) A.n - lo_ A (tm A 0 c) A.n, T, U, ?_, ?_, inv_t hI hST t3 u2⟩
      · unfold X10_apart
        rw [gd (nI c) 0 40 0 40, if_pos h1, singers_ok hx hw]
        refine (if_neg hn0).trans ?_
        refine (bd s1).trans ?_
        refine (bd t1).trans ?_
        exact bd sp
      · unfold X11_apart
        rw [md T (nI c) 0 40 0 40, if_pos h1, msingers_ok hmT hw]
        refine (if_neg hn0).trans ?_
        have u1 : X11_laysBeats T (nI c) 0 = some U := u1
        refine (bd u1).trans ?_
        rw [ma]
        rfl
  · exact ⟨-1, S, S, by unfold X10_apart; rw [gd a 0 40 0 40, if_neg h1], by unfold X11_apart; rw [md S a 0 40 0 40, if_neg h1], hI⟩
