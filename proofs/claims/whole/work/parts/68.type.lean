/-! type -/
def okG (L : List Nat) : Bool := L.all (fun x => decide (x ≠ 10) && (decide (x < 16) || decide (23 < x)) && (decide (x < 42) || decide (59 < x)) && (decide (x < 74) || decide (79 < x)))
theorem okG_not {L : List Nat} (h : okG L = true) {x : Nat} (hx : x = 10 ∨ (16 ≤ x ∧ x ≤ 23) ∨ (42 ≤ x ∧ x ≤ 59) ∨ (74 ≤ x ∧ x ≤ 79)) : x ∉ L := fun hm => by
  have := List.all_eq_true.mp h x hm
  simp only [Bool.and_eq_true, Bool.or_eq_true, decide_eq_true_eq] at this
  omega
/-- what a call that leaves images and sheets alone must show -/
theorem Inv.g {S S2 : St} {L : List Nat} (h : Inv S) (hu : Un L S S2) (hL : okG L = true) {A : Ch} (hw : Wf A) (hx : HX S2 1 A) (hm : HM S2 61 0 62 0 A) (ht : Tp S2) (hr : Rf S2) : Inv S2 := by
  obtain ⟨-, ⟨i0, i1⟩, -, hs, -⟩ := h
  exact ⟨⟨A, hw, hx, hm⟩, ⟨i0.un hu (okG_not hL (by omega)) (okG_not hL (by omega)) (okG_not hL (by omega)) (okG_not hL (by omega)) (fun k hk => okG_not hL (by omega)), i1.un hu (okG_not hL (by omega)) (okG_not hL (by omega)) (okG_not hL (by omega)) (okG_not hL (by omega)) (fun k hk => okG_not hL (by omega))⟩, ht, fun h hh => (hs h hh).un hu (okG_not hL (by omega)) (okG_not hL (by omega)) (okG_not hL (by omega)) (okG_not hL (by omega)) (okG_not hL (by omega)), hr⟩
theorem Rf.un {S S2 : St} {L : List Nat} (h : Rf S) (hu : Un L S S2) (h1 : 24 ∉ L) (h2 : 32 ∉ L) : Rf S2 := by
  unfold Rf
  rw [(hu 24 h1).2.2, (hu 24 h1).2.2, (hu 32 h2).2.2, (hu 32 h2).2.2]
  exact h
theorem by_low (x : Int32) : (x &&& 255).toInt8 = x.toInt8 := by
  apply Int8.toBitVec_inj.1
  apply BitVec.eq_of_getLsbD_eq
  intro i hi
  have h2 : (255 : Int32).toBitVec.getLsbD i = true := by
    have : ∀ j : Fin 8, (255 : Int32).toBitVec.getLsbD j.val = true := by decide +kernel
    exact this ⟨i, hi⟩
  have h3 : ((x &&& 255).toBitVec).getLsbD i = x.toBitVec.getLsbD i := by
    rw [Int32.toBitVec_and, BitVec.getLsbD_and, h2, Bool.and_true]
  show ((x &&& 255).toBitVec.signExtend 8).getLsbD i = (x.toBitVec.signExtend 8).getLsbD i
  have h4 : i < 32 := by omega
  rw [BitVec.getLsbD_signExtend, BitVec.getLsbD_signExtend, if_pos h4, if_pos h4, h3]
theorem by_small {n : Nat} (h : n < 128) : (nI n).toInt8.toInt32 = nI n := by
  have : ∀ j : Fin 128, (nI j.val).toInt8.toInt32 = nI j.val := by decide +kernel
  exact this ⟨n, h⟩
/-- the low byte -/
def bq (x : Int64) : Nat := x.toBitVec.toNat % 256
theorem bq_ok (x : Int64) : x.toInt32 &&& 255 = nI (bq x) ∧ x &&& 255 = lN (bq x) ∧ bq x < 256 ∧ (bq x < 128 → x.toInt32.toInt8.toInt32 = nI (bq x)) := by
  obtain ⟨n, hn⟩ : ∃ n, n = x.toBitVec.toNat := ⟨_, rfl⟩
  have e : x = lN n := Int64.toBitVec_inj.mp (by show _ = BitVec.ofNat 64 n; rw [hn]; simp)
  have eb : bq x = n % 256 := by unfold bq; rw [hn]
  have h1 : x.toInt32 &&& 255 = nI (n % 256) := by
    rw [e, lN_i, show (255 : Int32) = nI 255 from rfl, nI_and, show n &&& 255 = n % 256 from Nat.and_two_pow_sub_one_eq_mod n 8]
  rw [eb]
  refine ⟨h1, ?_, Nat.mod_lt _ (by decide), fun h => ?_⟩
  · rw [e, show (255 : Int64) = lN 255 from rfl, lN_and, show n &&& 255 = n % 256 from Nat.and_two_pow_sub_one_eq_mod n 8]
  · rw [← by_low, h1]
    exact by_small h
/-- the byte at place k from below -/
def byt (w : Int64) (k : Nat) : Nat := bq (w >>> ((nI (8 * k)).toInt64 &&& 63))
theorem can_ok (S : St) (w : Int64) {c : Nat} (hc : c ≤ 8) : (X8_canStand S w (nI c) = some 1 ∧ ∀ k, k < c → 32 ≤ byt w k ∧ byt w k ≤ 126) ∨ (X8_canStand S w (nI c) = some 0 ∧ ∃ k, k < c ∧ ¬ (32 ≤ byt w k ∧ byt w k ≤ 126)) := by
  obtain ⟨t, ht, e⟩ := forG (fun n k (_ : Unit) => X8_canStand_L2 S w (nI c) n (nI k)) c (fun k _ => ∀ r, r < k → 32 ≤ byt w r ∧ byt w r ≤ 126) (fun t => (t = .inl () ∧ ∀ r, r < c → 32 ≤ byt w r ∧ byt w r ≤ 126) ∨ (t = .inr 0 ∧ ∃ r, r < c ∧ ¬ (32 ≤ byt w r ∧ byt w r ≤ 126))) (fun n s hp => ⟨.inl (), if_pos (nI_le (Nat.le_refl c) (by omega)), Or.inl ⟨rfl, hp⟩⟩) (fun n k s hk hp => by
    obtain ⟨b1, -, b2, -⟩ := bq_ok (w >>> ((nI (8 * k)).toInt64 &&& 63))
    have e1 : X8_canStand_L2 S w (nI c) (n + 1) (nI k) = if nI (byt w k) < 32 then some (.inr 0) else if nI (byt w k) ≤ 126 then X8_canStand_L2 S w (nI c) n (nI (k + 1)) else some (.inr 0) := by
      refine (if_neg (nI_ge hk (by omega))).trans ?_
      rw [show (8 : Int32) * nI k = nI (8 * k) from pk_mul 8 k, b1, ← nI_1]
      rfl
    have b2 : byt w k < 256 := b2
    have eq : (if nI (byt w k) < 32 then some (.inr 0) else if nI (byt w k) ≤ 126 then X8_canStand_L2 S w (nI c) n (nI (k + 1)) else some (.inr 0)) = if 32 ≤ (nI (byt w k)).toInt ∧ (nI (byt w k)).toInt ≤ 126 then X8_canStand_L2 S w (nI c) n (nI (k + 1)) else some (.inr 0) := gd (nI (byt w k)) 32 126 32 126
    rw [eq, nT (by omega)] at e1
    by_cases hv : 32 ≤ byt w k ∧ byt w k ≤ 126
    · right
      refine ⟨(), e1.trans (if_pos (by omega)), fun r hr => ?_⟩
      by_cases hrk : r = k
      · rw [hrk]; exact hv
      · exact hp r (by omega)
    · left
      exact ⟨.inr 0, e1.trans (if_neg (by omega)), Or.inr ⟨rfl, k, hk, hv⟩⟩) c FU 0 () (by omega) (FU_lt (by omega)) (fun o ho => absurd ho (Nat.not_lt_zero o))
  have ht : X8_canStand_L2 S w (nI c) FU 0 = some t := ht
  rcases e with ⟨rfl, e⟩ | ⟨rfl, e⟩
  · left
    refine ⟨?_, e⟩
    unfold X8_canStand
    exact bd ht
  · right
    refine ⟨?_, e⟩
    unfold X8_canStand
    exact bd ht
theorem mcan_ok (S : St) (w : Int64) {c : Nat} (hc : c ≤ 8) : (X11_type_L17 S w (nI c) FU 0 = some (.inl ()) ∧ ∀ k, k < c → 32 ≤ byt w k ∧ byt w k ≤ 126) ∨ (X11_type_L17 S w (nI c) FU 0 = some (.inr (-1, S)) ∧ ∃ k, k < c ∧ ¬ (32 ≤ byt w k ∧ byt w k ≤ 126)) := by
  obtain ⟨t, ht, e⟩ := forG (fun n k (_ : Unit) => X11_type_L17 S w (nI c) n (nI k)) c (fun k _ => ∀ r, r < k → 32 ≤ byt w r ∧ byt w r ≤ 126) (fun t => (t = .inl () ∧ ∀ r, r < c → 32 ≤ byt w r ∧ byt w r ≤ 126) ∨ (t = .inr (-1, S) ∧ ∃ r, r < c ∧ ¬ (32 ≤ byt w r ∧ byt w r ≤ 126))) (fun n s hp => ⟨.inl (), if_pos (nI_le (Nat.le_refl c) (by omega)), Or.inl ⟨rfl, hp⟩⟩) (fun n k s hk hp => by
    obtain ⟨-, b1, b2, -⟩ := bq_ok (w >>> ((nI (8 * k)).toInt64 &&& 63))
    have b2 : byt w k < 256 := b2
    have e1 : X11_type_L17 S w (nI c) (n + 1) (nI k) = if 32 ≤ byt w k ∧ byt w k ≤ 126 then X11_type_L17 S w (nI c) n (nI (k + 1)) else some (.inr (-1, S)) := by
      refine (if_neg (nI_ge hk (by omega))).trans ?_
      rw [show (8 : Int32) * nI k = nI (8 * k) from pk_mul 8 k, b1, ← nI_1, in_ok]
      refine one0.trans ?_
      have : (lN (bq (w >>> ((nI (8 * k)).toInt64 &&& 63)))).toInt = (byt w k : Int) := pk_lT (by unfold byt at b2; omega)
      rw [this]
      have h32 : (32 : Int64).toInt = 32 := rfl
      have h126 : (126 : Int64).toInt = 126 := rfl
      rw [h32, h126]
      by_cases hv : 32 ≤ byt w k ∧ byt w k ≤ 126
      · rw [if_pos hv, if_pos (by omega)]
      · rw [if_neg hv, if_neg (by omega)]
    by_cases hv : 32 ≤ byt w k ∧ byt w k ≤ 126
    · right
      refine ⟨(), e1.trans (if_pos hv), fun r hr => ?_⟩
      by_cases hrk : r = k
      · rw [hrk]; exact hv
      · exact hp r (by omega)
    · left
      exact ⟨.inr (-1, S), e1.trans (if_neg hv), Or.inr ⟨rfl, k, hk, hv⟩⟩) c FU 0 () (by omega) (FU_lt (by omega)) (fun o ho => absurd ho (Nat.not_lt_zero o))
  have ht : X11_type_L17 S w (nI c) FU 0 = some t := ht
  rcases e with ⟨rfl, e⟩ | ⟨rfl, e⟩
  · exact Or.inl ⟨ht, e⟩
  · exact Or.inr ⟨ht, e⟩
theorem stB_s (S : St) (k : Nat) {i : Int32} (v : Int32) (hi : i = nI k) (hk : k < 120) : stB S 14 i v = some (wI S 14 k (vp_nar .byte v)) := by
  subst hi
  unfold stB
  rw [if_pos ⟨rfl, in_sid S rfl, inB_nI (n := 120) hk (by decide)⟩, nI_clamp (by omega)]
theorem ldB_s (S : St) (k : Nat) {i : Int32} (hi : i = nI k) (hk : k < 120) : ldB S 14 i = some (rI S 14 k) := by
  subst hi
  unfold ldB
  rw [if_pos ⟨rfl, in_sid S rfl, inB_nI (n := 120) hk (by decide)⟩, nI_clamp (by omega)]
theorem app_ok {S : St} (w : Int64) {t c : Nat} (ht : t + c ≤ 120) (hc : c ≤ 8) (e : rI S 11 0 = nI t) (hb : ∀ k, k < c → byt w k ≤ 126) : ∃ T, X8_append_L5 w FU (nI c + (-1)) S = some T ∧ Un [11, 14] S T ∧ rI T 11 0 = nI (t + c) ∧ ∀ x, rI T 14 x = if t ≤ x ∧ x < t + c then nI (byt w (c - 1 - (x - t))) else rI S 14 x := by
  obtain ⟨T, hT, q⟩ := forG (fun n k (s : St) => X8_append_L5 w n (nI (c - k) + (-1)) s) c (fun k s => Un [11, 14] S s ∧ rI s 11 0 = nI (t + k) ∧ ∀ x, rI s 14 x = if t ≤ x ∧ x < t + k then nI (byt w (c - 1 - (x - t))) else rI S 14 x) (fun s => Un [11, 14] S s ∧ rI s 11 0 = nI (t + c) ∧ ∀ x, rI s 14 x = if t ≤ x ∧ x < t + c then nI (byt w (c - 1 - (x - t))) else rI S 14 x) (fun n s hp => by
    refine ⟨s, ?_, hp⟩
    show X8_append_L5 w (n + 1) (nI (c - c) + (-1)) s = some s
    rw [Nat.sub_self]
    exact if_pos (by decide)) (fun n k s hk hp => by
    obtain ⟨p1, p2, p3⟩ := hp
    right
    obtain ⟨-, -, -, b4⟩ := bq_ok (w >>> ((nI (8 * (c - 1 - k))).toInt64 &&& 63))
    refine ⟨wI (wI s 14 (t + k) (nI (byt w (c - 1 - k)))) 11 0 (nI (t + k + 1)), ?_, ?_, ?_, fun x => ?_⟩
    · show X8_append_L5 w (n + 1) (nI (c - k) + (-1)) s = X8_append_L5 w n (nI (c - (k + 1)) + (-1)) _
      rw [show c - k = (c - 1 - k) + 1 by omega, pk_m1, show c - (k + 1) = c - 1 - k by omega]
      refine (if_neg (nI_pos (by omega))).trans ?_
      refine (bd (stB_s s (t + k) _ p2 (by omega))).trans ?_
      rw [show (8 : Int32) * nI (c - 1 - k) = nI (8 * (c - 1 - k)) from pk_mul 8 _, pk_vb, b4 (by have := hb (c - 1 - k) (by omega); unfold byt at this; omega)]
      refine (bd (rfl : stF _ 11 0 _ = some _)).trans ?_
      rw [rI_wI_a (by decide), p2, nI_1]
      rfl
    · exact p1.trs ((Un.wI _ _ _ _ (by simp)).trs (Un.wI _ _ _ _ (by simp)))
    · exact rI_wI_s _ _ _ _
    · rw [rI_wI_a (by decide), rI_wI]
      by_cases hx2 : x = t + k
      · rw [if_pos ⟨rfl, hx2⟩, if_pos (by omega), hx2, show t + k - t = k by omega]
      · rw [if_neg (fun z => hx2 z.2), p3 x]
        by_cases hy : t ≤ x ∧ x < t + k
        · rw [if_pos hy, if_pos (by omega)]
        · rw [if_neg hy, if_neg (by omega)]) c FU 0 S (by omega) (FU_lt (by omega)) ⟨Un.rf _ _, e, fun x => by
      rw [if_neg (by omega)]⟩
  exact ⟨T, hT, q⟩
theorem mapp_ok {S : St} (w : Int64) {t c : Nat} (ht : t + c ≤ 120) (hc : c ≤ 8) (e : rI S 60 5 = nI t) : ∃ T, X11_type_L73 w FU (nI c + (-1)) S = some T ∧ Un [60, 65] S T ∧ rI T 60 5 = nI (t + c) ∧ ∀ x, rI T 65 x = if t ≤ x ∧ x < t + c then nI (byt w (c - 1 - (x - t))) else rI S 65 x := by
  obtain ⟨T, hT, q⟩ := forG (fun n k (s : St) => X11_type_L73 w n (nI (c - k) + (-1)) s) c (fun k s => Un [60, 65] S s ∧ rI s 60 5 = nI (t + k) ∧ ∀ x, rI s 65 x = if t ≤ x ∧ x < t + k then nI (byt w (c - 1 - (x - t))) else rI S 65 x) (fun s => Un [60, 65] S s ∧ rI s 60 5 = nI (t + c) ∧ ∀ x, rI s 65 x = if t ≤ x ∧ x < t + c then nI (byt w (c - 1 - (x - t))) else rI S 65 x) (fun n s hp => by
    refine ⟨s, ?_, hp⟩
    show X11_type_L73 w (n + 1) (nI (c - c) + (-1)) s = some s
    rw [Nat.sub_self]
    exact if_pos (by decide)) (fun n k s hk hp => by
    obtain ⟨p1, p2, p3⟩ := hp
    right
    obtain ⟨-, b2, -, -⟩ := bq_ok (w >>> ((nI (8 * (c - 1 - k))).toInt64 &&& 63))
    refine ⟨wI (wI s 65 (t + k) (nI (byt w (c - 1 - k)))) 60 5 (nI (t + k + 1)), ?_, ?_, ?_, fun x => ?_⟩
    · show X11_type_L73 w (n + 1) (nI (c - k) + (-1)) s = X11_type_L73 w n (nI (c - (k + 1)) + (-1)) _
      rw [show c - k = (c - 1 - k) + 1 by omega, pk_m1, show c - (k + 1) = c - 1 - k by omega]
      refine (if_neg (nI_pos (by omega))).trans ?_
      refine (bd (stA_s s 65 (t + k) _ rfl p2 (by show _ < 120; omega))).trans ?_
      rw [show (8 : Int32) * nI (c - 1 - k) = nI (8 * (c - 1 - k)) from pk_mul 8 _, b2, lN_i]
      refine (bd (rfl : stF _ 60 5 _ = some _)).trans ?_
      rw [rI_wI_a (by decide), p2, nI_1]
      rfl
    · exact p1.trs ((Un.wI _ _ _ _ (by simp)).trs (Un.wI _ _ _ _ (by simp)))
    · exact rI_wI_s _ _ _ _
    · rw [rI_wI_a (by decide), rI_wI]
      by_cases hx2 : x = t + k
      · rw [if_pos ⟨rfl, hx2⟩, if_pos (by omega), hx2, show t + k - t = k by omega]
      · rw [if_neg (fun z => hx2 z.2), p3 x]
        by_cases hy : t ≤ x ∧ x < t + k
        · rw [if_pos hy, if_pos (by omega)]
        · rw [if_neg hy, if_neg (by omega)]) c FU 0 S (by omega) (FU_lt (by omega)) ⟨Un.rf _ _, e, fun x => by
      rw [if_neg (by omega)]⟩
  exact ⟨T, hT, q⟩
theorem st_type : ∀ (S : St) (a0 : Int64) (a1 : Int32), Inv S → ∃ (r : Int32) (S1 : St) (S2 : St), X10_type S a0 a1 = some (r, S1) ∧ X11_type S1 a0 a1 = some (r, S2) ∧ Inv S2 := by
  intro S w a hI
  obtain ⟨⟨A, hw, hx, hm⟩, -, ⟨t, b, t1, t2, t3, t4⟩, -, hr⟩ := id hI
  have eX : X10_type S w a = if 1 ≤ a.toInt ∧ a.toInt ≤ 8 then ((X8_canStand S w a).bind fun x4 => if x4 = 0 then some (-1, S) else if (nI t + a) ≤ 120 then (X8_append S w a).bind fun (x8, S9) => some (x8, S9) else some (-3, S)) else some (-1, S) := by
    unfold X10_type
    rw [gd2 a 1 8 1 8, t2]
  have eM : ∀ T, rI T 60 5 = nI t → X11_type T w a = if 1 ≤ a.toInt ∧ a.toInt ≤ 8 then ((X11_type_L17 T w a FU 0).bind fun t' => match t' with
      | .inr (x19, S20) => some (x19, S20)
      | .inl _ => if (nI t + a) ≤ 120 then (X11_type_L73 w FU (a - 1) T).bind fun S15 => some ((rI S15 60 5), S15) else some (-3, T)) else some (-1, T) := fun T hT => by
    unfold X11_type
    rw [md T a 1 8 1 8, hT]
    rfl
  by_cases h : 1 ≤ a.toInt ∧ a.toInt ≤ 8
  · obtain ⟨c, hc, rfl⟩ := i_nat (x := a) (n := 9) (by omega) (by omega)
    rw [if_pos h] at eX
    rw [nT (by omega)] at h
    rcases can_ok S w (c := c) (by omega) with ⟨y1, y2⟩ | ⟨y1, y2⟩
    · rw [y1] at eX
      have eX : X10_type S w (nI c) = if (nI t + nI c) ≤ 120 then (X8_append S w (nI c)).bind fun (x8, S9) => some (x8, S9) else some (-3, S) := eX
      rw [nI_add] at eX
      by_cases hf : t + c ≤ 120
      · replace eX := eX.trans (if_pos (nI_le (b := 120) hf (by decide)))
        obtain ⟨T, T1, T2, T3, T4⟩ := app_ok (S := S) w hf (by omega) t2 (fun k hk => (y2 k hk).2)
        have eA : X8_append S w (nI c) = some (nI (t + c), T) := by
          unfold X8_append
          rw [Int32.sub_eq_add_neg]
          refine (bd T1).trans ?_
          rw [T3]
        rw [eA] at eX
        have e60 : rI T 60 5 = nI t := ((T2 60 (by decide)).1 5).trans t3
        obtain ⟨U, U1, U2, U3, U4⟩ := mapp_ok (S := T) w hf (by omega) e60
        refine ⟨nI (t + c), T, U, eX, ?_, ?_⟩
        · rw [eM T e60, if_pos (by rw [nT (by omega)]; omega)]
          rcases mcan_ok T w (c := c) (by omega) with ⟨z1, z2⟩ | ⟨z1, k, z2, z3⟩
          · rw [z1]
            show (if nI t + nI c ≤ 120 then (X11_type_L73 w FU (nI c - 1) T).bind _ else _) = _
            rw [nI_add]
            refine (if_pos (nI_le (b := 120) hf (by decide))).trans ?_
            rw [Int32.sub_eq_add_neg]
            refine (bd U1).trans ?_
            rw [U3]
          · exact absurd (y2 k z2) z3
        · have hu : Un [11, 14, 60, 65] S U := (T2.mono (by simp)).trs (U2.mono (by simp))
          refine hI.g hu (by decide) hw (hx.un hu (fun k hk => by simp <;> omega)) (hm.un hu (by decide) (by decide)) ?_ (hr.un hu (by decide) (by decide))
          refine ⟨t + c, fun x => if t ≤ x ∧ x < t + c then byt w (c - 1 - (x - t)) else b x, hf, ((U2 11 (by decide)).1 0).trans T3, U3, fun k hk => ?_⟩
          by_cases hk2 : t ≤ k ∧ k < t + c
          · have := y2 (c - 1 - (k - t)) (by omega)
            refine ⟨?_, ?_, ?_, ?_⟩
            · show 32 ≤ if _ then _ else _
              rw [if_pos hk2]; exact this.1
            · show (if _ then _ else _) ≤ 126
              rw [if_pos hk2]; exact this.2
            · show _ = nI (if _ then _ else _)
              rw [(U2 14 (by decide)).1, T4, if_pos hk2, if_pos hk2]
            · show _ = nI (if _ then _ else _)
              rw [U4, if_pos hk2, if_pos hk2]
          · obtain ⟨g1, g2, g3, g4⟩ := t4 k (by omega)
            refine ⟨?_, ?_, ?_, ?_⟩
            · show 32 ≤ if _ then _ else _
              rw [if_neg hk2]; exact g1
            · show (if _ then _ else _) ≤ 126
              rw [if_neg hk2]; exact g2
            · show _ = nI (if _ then _ else _)
              rw [(U2 14 (by decide)).1, T4, if_neg hk2, if_neg hk2]
              exact g3
            · show _ = nI (if _ then _ else _)
              rw [U4, if_neg hk2, if_neg hk2, (T2 65 (by decide)).1]
              exact g4
      · replace eX := eX.trans (if_neg (fun z => hf ((nI_leI (b := 120) (by omega) (by decide)).mp z)))
        refine ⟨-3, S, S, eX, ?_, hI⟩
        rw [eM S t3, if_pos (by rw [nT (by omega)]; omega)]
        rcases mcan_ok S w (c := c) (by omega) with ⟨z1, z2⟩ | ⟨z1, k, z2, z3⟩
        · rw [z1]
          show (if nI t + nI c ≤ 120 then (X11_type_L73 w FU (nI c - 1) S).bind _ else _) = _
          rw [nI_add]
          exact if_neg (fun z => hf ((nI_leI (b := 120) (by omega) (by decide)).mp z))
        · exact absurd (y2 k z2) z3
    · rw [y1] at eX
      refine ⟨-1, S, S, eX, ?_, hI⟩
      rw [eM S t3, if_pos (by rw [nT (by omega)]; omega)]
      rcases mcan_ok S w (c := c) (by omega) with ⟨z1, z2⟩ | ⟨z1, z2⟩
      · obtain ⟨k, k1, k2⟩ := y2
        exact absurd (z2 k k1) k2
      · rw [z1]
        rfl
  · exact ⟨-1, S, S, by rw [eX, if_neg h], by rw [eM S t3, if_neg h], hI⟩
