/-- all calls answer alike -/
def AllSteps (Inv : St → Prop) : Prop :=
  (∀ (S : St) (a0 : Int32), Inv S → ∃ (r : Int32) (S1 : St) (S2 : St), X10_room S a0 = some (r, S1) ∧ X11_room S1 a0 = some (r, S2) ∧ Inv S2) ∧
  (∀ (S : St) (a0 : Int32) (a1 : Int32) (a2 : Int32), Inv S → ∃ (r : Int32) (S1 : St) (S2 : St), X10_set S a0 a1 a2 = some (r, S1) ∧ X11_set S1 a0 a1 a2 = some (r, S2) ∧ Inv S2) ∧
  (∀ (S : St) (a0 : Int32) (a1 : Int32) (a2 : Int32), Inv S → ∃ (r : Int32) (S1 : St) (S2 : St), X10_wire S a0 a1 a2 = some (r, S1) ∧ X11_wire S1 a0 a1 a2 = some (r, S2) ∧ Inv S2) ∧
  (∀ (S : St) (a0 : Int32) (a1 : Int32) (a2 : Int32) (a3 : Int32), Inv S → ∃ (r : Int32) (S1 : St) (S2 : St), X10_wires S a0 a1 a2 a3 = some (r, S1) ∧ X11_wires S1 a0 a1 a2 a3 = some (r, S2) ∧ Inv S2) ∧
  (∀ (S : St) (a0 : Int32), Inv S → ∃ (r : Int32) (S1 : St) (S2 : St), X10_pace S a0 = some (r, S1) ∧ X11_pace S1 a0 = some (r, S2) ∧ Inv S2) ∧
  (∀ (S : St) (a0 : Int32) (a1 : Int32), Inv S → ∃ (r : Int32) (S1 : St) (S2 : St), X10_time S a0 a1 = some (r, S1) ∧ X11_time S1 a0 a1 = some (r, S2) ∧ Inv S2) ∧
  (∀ (S : St) (a0 : Int32), Inv S → ∃ (r : Int32) (S1 : St) (S2 : St), X10_paceAt S a0 = some (r, S1) ∧ X11_paceAt S1 a0 = some (r, S2) ∧ Inv S2) ∧
  (∀ (S : St) (a0 : Int32) (a1 : Int32), Inv S → ∃ (r : Int32) (S1 : St) (S2 : St), X10_slows S a0 a1 = some (r, S1) ∧ X11_slows S1 a0 a1 = some (r, S2) ∧ Inv S2) ∧
  (∀ (S : St) (a0 : Int32), Inv S → ∃ (r : Int32) (S1 : St) (S2 : St), X10_apart S a0 = some (r, S1) ∧ X11_apart S1 a0 = some (r, S2) ∧ Inv S2) ∧
  (∀ (S : St) (a0 : Int32), Inv S → ∃ (r : Int32), X10_count S a0 = some r ∧ X11_count S a0 = some r ∧ Inv S) ∧
  (∀ (S : St) (a0 : Int32) (a1 : Int32), Inv S → ∃ (r : Int32), X10_hold S a0 a1 = some r ∧ X11_hold S a0 a1 = some r ∧ Inv S) ∧
  (∀ (S : St) (a0 : Int32) (a1 : Int32), Inv S → ∃ (r : Int32) (S1 : St) (S2 : St), X10_together S a0 a1 = some (r, S1) ∧ X11_together S1 a0 a1 = some (r, S2) ∧ Inv S2) ∧
  (∀ (S : St) (a0 : Int64) (a1 : Int32), Inv S → ∃ (r : Int32) (S1 : St) (S2 : St), X10_type S a0 a1 = some (r, S1) ∧ X11_type S1 a0 a1 = some (r, S2) ∧ Inv S2) ∧
  (∀ (S : St) , Inv S → ∃ (r : Int32) (S1 : St) (S2 : St), X10_piece S  = some (r, S1) ∧ X11_piece S1  = some (r, S2) ∧ Inv S2) ∧
  (∀ (S : St) (a0 : Int32), Inv S → ∃ (r : Int32), X10_sound S a0 = some r ∧ X11_sound S a0 = some r ∧ Inv S) ∧
  (∀ (S : St) (a0 : Int32), Inv S → ∃ (r : Int32) (S1 : St) (S2 : St), X10_fit S a0 = some (r, S1) ∧ X11_fit S1 a0 = some (r, S2) ∧ Inv S2) ∧
  (∀ (S : St) (a0 : Int32), Inv S → ∃ (r : Int32), X10_clashes S a0 = some r ∧ X11_clashes S a0 = some r ∧ Inv S) ∧
  (∀ (S : St) (a0 : Int32), Inv S → ∃ (r : Int32), X10_canon S a0 = some r ∧ X11_canon S a0 = some r ∧ Inv S) ∧
  (∀ (S : St) (a0 : Int32) (a1 : Int32), Inv S → ∃ (r : Int32), X10_sea S a0 a1 = some r ∧ X11_sea S a0 a1 = some r ∧ Inv S) ∧
  (∀ (S : St) (a0 : Int32) (a1 : Int32) (a2 : Int32) (a3 : Int32), (a3 = 0 ∨ a3 = 1) → Inv S → ∃ (r : Int32) (S1 : St) (S2 : St), X10_lose S a0 a1 a2 a3 = some (r, S1) ∧ X11_lose S1 a0 a1 a2 a3 = some (r, S2) ∧ Inv S2) ∧
  (∀ (S : St) (a0 : Int32) (a1 : Int32), Inv S → ∃ (r : Int32) (S1 : St) (S2 : St), X10_goes S a0 a1 = some (r, S1) ∧ X11_goes S1 a0 a1 = some (r, S2) ∧ Inv S2) ∧
  (∀ (S : St) (a0 : Int32) (a1 : Int32), Inv S → ∃ (r : Int32) (S1 : St) (S2 : St), X10_knows S a0 a1 = some (r, S1) ∧ X11_knows S1 a0 a1 = some (r, S2) ∧ Inv S2) ∧
  (∀ (S : St) (a0 : Int64), Inv S → ∃ (r : Int32) (S1 : St) (S2 : St), X10_loss S a0 = some (r, S1) ∧ X11_loss S1 a0 = some (r, S2) ∧ Inv S2) ∧
  (∀ (S : St) (a0 : Int32) (a1 : Int32), Inv S → ∃ (r : Int32), X10_lost S a0 a1 = some r ∧ X11_lost S a0 a1 = some r ∧ Inv S) ∧
  (∀ (S : St) , Inv S → ∃ (r : Int32), X10_group S  = some r ∧ X11_group S  = some r ∧ Inv S) ∧
  (∀ (S : St) , Inv S → ∃ (r : Int32) (S1 : St) (S2 : St), X10_clear S  = some (r, S1) ∧ X11_clear S1  = some (r, S2) ∧ Inv S2) ∧
  (∀ (S : St) (a0 : Int32), Inv S → ∃ (r : Int32) (S1 : St) (S2 : St), X10_most S a0 = some (r, S1) ∧ X11_most S1 a0 = some (r, S2) ∧ Inv S2) ∧
  (∀ (S : St) , Inv S → ∃ (r : Int32) (S1 : St) (S2 : St), X10_net S  = some (r, S1) ∧ X11_net S1  = some (r, S2) ∧ Inv S2) ∧
  (∀ (S : St) (a0 : Int32), Inv S → ∃ (r : Int32) (S1 : St) (S2 : St), X10_image S a0 = some (r, S1) ∧ X11_image S1 a0 = some (r, S2) ∧ Inv S2) ∧
  (∀ (S : St) (a0 : Int32), Inv S → ∃ (r : Int32) (S1 : St) (S2 : St), X10_restore S a0 = some (r, S1) ∧ X11_restore S1 a0 = some (r, S2) ∧ Inv S2) ∧
  (∀ (S : St) (a0 : Int32) (a1 : Int32) (a2 : Int32), Inv S → ∃ (r : Int32) (S1 : St) (S2 : St), X10_sheet S a0 a1 a2 = some (r, S1) ∧ X11_sheet S1 a0 a1 a2 = some (r, S2) ∧ Inv S2) ∧
  (∀ (S : St) (a0 : Int32), Inv S → ∃ (r : Int32) (S1 : St) (S2 : St), X10_drop S a0 = some (r, S1) ∧ X11_drop S1 a0 = some (r, S2) ∧ Inv S2) ∧
  (∀ (S : St) (a0 : Int32) (a1 : Int32) (a2 : Int32) (a3 : Int32), Inv S → ∃ (r : Int32) (S1 : St) (S2 : St), X10_item S a0 a1 a2 a3 = some (r, S1) ∧ X11_item S1 a0 a1 a2 a3 = some (r, S2) ∧ Inv S2) ∧
  (∀ (S : St) (a0 : Int32) (a1 : Int32) (a2 : Int32) (a3 : Int32) (a4 : Int32), Inv S → ∃ (r : Int32) (S1 : St) (S2 : St), X10_copy S a0 a1 a2 a3 a4 = some (r, S1) ∧ X11_copy S1 a0 a1 a2 a3 a4 = some (r, S2) ∧ Inv S2)
theorem lp_exit {k L : Nat} (hL : L ≤ 3072) (hk : 6 * k ≤ L) (h : ¬ (Int32.ofNat L - 6 < nI (6 * k))) : 6 * k + 6 ≤ L := by
  have e1 : (Int32.ofNat L - 6).toInt = (L : Int) - 6 := by
    have := pk_sub_toInt (a := L) (b := 6) (by omega) (by omega)
    exact this
  have e2 : (nI (6 * k)).toInt = ((6 * k : Nat) : Int) := nI_toInt (by omega)
  rw [Int32.lt_iff_toInt_lt, e1, e2] at h
  omega
set_option maxHeartbeats 4000000 in
set_option maxRecDepth 100000 in
theorem law_loop {p : Program} {e : Env} {s : State} {m : MethodId} {below : List Frame} {meth : Method} {c : Code} {l : Launch} {b L : Nat} {xs : Nat → Int32} {Inv : St → Prop} {E : En} (hA : AllSteps Inv) (hL : L ≤ 3072) (hr : meth.sig.returnType = ret) (hlk : meth.locks = false) (hX : va_X b L xs s s.heap) (hbl : b < s.heap.size) (hE : E.2.2.2.1 = s.heap.size) (C : Cx E p s m #[Value.ref b] c code 4 RL lw_tbl) :
    ∀ (n k : Nat) (ad : Nat → Nat) (S : St) (H : Heap) (locs : List Loc) (ls : Array Slot), 513 ≤ k + n → 6 * k ≤ L → Inv S → Ww (Ea E ad) S s H locs → lv_has ls 4 [(0, .ref b), (1, .ref (ad 0)), (2, .ref (ad 60)), (3, .int (nI (6 * k)))] → W p l e room_1 s m #[Value.ref b] below meth c H locs (63 + 9 * k) (3633 + 254 * k) (lw_Z below #[Value.ref b] s) (F0 m 18 ls []) := by
  obtain ⟨⟨hx, hb, hml, hown, hts⟩, hK, hT⟩ := id C
  have hbA : ¬ Ab E b := by
    show ¬ E.2.2.2.1 ≤ b
    omega
  intro n
  induction n with
  | zero => intro k ad S H locs ls h1 h2; omega
  | succ n ih =>
    intro k ad S H locs ls hn hk hI hW hl
    have C1 : Cx (Ea E ad) p s m #[Value.ref b] c code 4 RL lw_tbl := C
    refine lv_iload_n hx hb dL_law_18 rfl (lv_at hl 3 rfl) ?_
    refine lv_aload_n hx hb dL_law_19 rfl (lv_at hl 0 rfl) ?_
    refine va_slen hx hb hX hbl hbA hW.2.2 dL_law_20 ?_
    refine lv_bipush (v := 6) hx hb dL_law_21 (by decide) ?_
    refine lv_isub hx hb dL_law_23 ?_
    refine lv_icmp_gt (tgt := 1288) hx hb dL_law_24 (by decide) (fun c1 => ?_) (fun c1 => ?_)
    · refine lv_iconst (v := 1) hx hb dL_law_1288 (by decide) ?_
      refine va_forget (fun q hq => by have h := hW.2.2.2.2 q hq; exact hE ▸ h) ?_
      refine W.widen (k := 600000) (n := 7302250) (by omega) (by omega) ?_
      exact lw_ret hx hb hr hlk dL_law_1289
    · have hk6 := lp_exit hL hk c1
      have kN : LwN p l e s m below meth c b k Inv (Ea E ad) := by
        intro ad1 S H locs ls c1 s1 hc hs e0 e60 hI hW hl
        have hl : lv_has ls 4 [(0, .ref b), (1, .ref (ad 0)), (2, .ref (ad 60)), (3, .int (nI (6 * k)))] := hl
        refine lv_iinc (v := nI (6 * (k + 1))) (lv' := [(3, .int (nI (6 * (k + 1)))), (0, .ref b), (1, .ref (ad 0)), (2, .ref (ad 60))]) hx hb dL_law_1282 hl (k := 3) rfl (nI_add (6 * k) 6) (by decide) rfl (fun ls hl => ?_)
        refine lv_goto (tgt := 18) hx hb dL_law_1285 (by decide) ?_
        refine W.widen hc hs ?_
        have hl2 : lv_has ls 4 [(0, .ref b), (1, .ref (ad1 0)), (2, .ref (ad1 60)), (3, .int (nI (6 * (k + 1))))] := by
          rw [e0, e60]
          exact lv_sub hl [1, 2, 3, 0] rfl
        exact ih (k + 1) ad1 S H locs ls (by omega) (by omega) hI hW hl2
      refine lv_aload_n hx hb dL_law_27 rfl (lv_at hl 0 rfl) ?_
      refine lv_iload_n hx hb dL_law_28 rfl (lv_at hl 3 rfl) ?_
      refine va_sld hx hb hX hbl hbA hW.2.2 (vp_in_nI (n := 6 * k) (by omega) (by omega)) dL_law_29 ?_
      refine lv_bipush (v := 63) hx hb dL_law_30 (by decide) ?_
      refine lv_iand hx hb dL_law_32 ?_
      obtain ⟨j, hj, ej⟩ := pk_andE (xs (nI (6 * k)).toNatClampNeg) (m := 63) 6 (by decide)
      rw [ej]
      by_cases j0 : j = 0
      · subst j0
        refine lv_tableIn (tgt := 184) (off := 151) hx hb dL_law_33 (by decide) (by decide) (by decide) (by decide) ?_
        exact law_room (E := Ea E ad) (hA.1) hL hk6 hX hbl hbA C1 hI hW hl kN
      by_cases j1 : j = 1
      · subst j1
        refine lv_tableIn (tgt := 207) (off := 174) hx hb dL_law_33 (by decide) (by decide) (by decide) (by decide) ?_
        exact law_set (E := Ea E ad) (hA.2.1) hL hk6 hX hbl hbA C1 hI hW hl kN
      by_cases j2 : j = 2
      · subst j2
        refine lv_tableIn (tgt := 250) (off := 217) hx hb dL_law_33 (by decide) (by decide) (by decide) (by decide) ?_
        exact law_wire (E := Ea E ad) (hA.2.2.1) hL hk6 hX hbl hbA C1 hI hW hl kN
      by_cases j3 : j = 3
      · subst j3
        refine lv_tableIn (tgt := 293) (off := 260) hx hb dL_law_33 (by decide) (by decide) (by decide) (by decide) ?_
        exact law_wires (E := Ea E ad) (hA.2.2.2.1) hL hk6 hX hbl hbA C1 hI hW hl kN
      by_cases j4 : j = 4
      · subst j4
        refine lv_tableIn (tgt := 346) (off := 313) hx hb dL_law_33 (by decide) (by decide) (by decide) (by decide) ?_
        exact law_pace (E := Ea E ad) (hA.2.2.2.2.1) hL hk6 hX hbl hbA C1 hI hW hl kN
      by_cases j5 : j = 5
      · subst j5
        refine lv_tableIn (tgt := 369) (off := 336) hx hb dL_law_33 (by decide) (by decide) (by decide) (by decide) ?_
        exact law_time (E := Ea E ad) (hA.2.2.2.2.2.1) hL hk6 hX hbl hbA C1 hI hW hl kN
      by_cases j6 : j = 6
      · subst j6
        refine lv_tableIn (tgt := 402) (off := 369) hx hb dL_law_33 (by decide) (by decide) (by decide) (by decide) ?_
        exact law_paceAt (E := Ea E ad) (hA.2.2.2.2.2.2.1) hL hk6 hX hbl hbA C1 hI hW hl kN
      by_cases j7 : j = 7
      · subst j7
        refine lv_tableIn (tgt := 425) (off := 392) hx hb dL_law_33 (by decide) (by decide) (by decide) (by decide) ?_
        exact law_slows (E := Ea E ad) (hA.2.2.2.2.2.2.2.1) hL hk6 hX hbl hbA C1 hI hW hl kN
      by_cases j8 : j = 8
      · subst j8
        refine lv_tableIn (tgt := 458) (off := 425) hx hb dL_law_33 (by decide) (by decide) (by decide) (by decide) ?_
        exact law_apart (E := Ea E ad) (hA.2.2.2.2.2.2.2.2.1) hL hk6 hX hbl hbA C1 hI hW hl kN
      by_cases j9 : j = 9
      · subst j9
        refine lv_tableIn (tgt := 481) (off := 448) hx hb dL_law_33 (by decide) (by decide) (by decide) (by decide) ?_
        exact law_count (E := Ea E ad) (hA.2.2.2.2.2.2.2.2.2.1) hL hk6 hX hbl hbA C1 hI hW hl kN
      by_cases j10 : j = 10
      · subst j10
        refine lv_tableIn (tgt := 504) (off := 471) hx hb dL_law_33 (by decide) (by decide) (by decide) (by decide) ?_
        exact law_hold (E := Ea E ad) (hA.2.2.2.2.2.2.2.2.2.2.1) hL hk6 hX hbl hbA C1 hI hW hl kN
      by_cases j11 : j = 11
      · subst j11
        refine lv_tableIn (tgt := 537) (off := 504) hx hb dL_law_33 (by decide) (by decide) (by decide) (by decide) ?_
        exact law_together (E := Ea E ad) (hA.2.2.2.2.2.2.2.2.2.2.2.1) hL hk6 hX hbl hbA C1 hI hW hl kN
      by_cases j12 : j = 12
      · subst j12
        refine lv_tableIn (tgt := 570) (off := 537) hx hb dL_law_33 (by decide) (by decide) (by decide) (by decide) ?_
        exact law_type (E := Ea E ad) (hA.2.2.2.2.2.2.2.2.2.2.2.2.1) hL hk6 hX hbl hbA C1 hI hW hl kN
      by_cases j13 : j = 13
      · subst j13
        refine lv_tableIn (tgt := 633) (off := 600) hx hb dL_law_33 (by decide) (by decide) (by decide) (by decide) ?_
        exact law_piece (E := Ea E ad) (hA.2.2.2.2.2.2.2.2.2.2.2.2.2.1) hL hk6 hX hbl hbA C1 hI hW hl kN
      by_cases j14 : j = 14
      · subst j14
        refine lv_tableIn (tgt := 646) (off := 613) hx hb dL_law_33 (by decide) (by decide) (by decide) (by decide) ?_
        exact law_sound (E := Ea E ad) (hA.2.2.2.2.2.2.2.2.2.2.2.2.2.2.1) hL hk6 hX hbl hbA C1 hI hW hl kN
      by_cases j15 : j = 15
      · subst j15
        refine lv_tableIn (tgt := 669) (off := 636) hx hb dL_law_33 (by decide) (by decide) (by decide) (by decide) ?_
        exact law_fit (E := Ea E ad) (hA.2.2.2.2.2.2.2.2.2.2.2.2.2.2.2.1) hL hk6 hX hbl hbA C1 hI hW hl kN
      by_cases j16 : j = 16
      · subst j16
        refine lv_tableIn (tgt := 692) (off := 659) hx hb dL_law_33 (by decide) (by decide) (by decide) (by decide) ?_
        exact law_clashes (E := Ea E ad) (hA.2.2.2.2.2.2.2.2.2.2.2.2.2.2.2.2.1) hL hk6 hX hbl hbA C1 hI hW hl kN
      by_cases j17 : j = 17
      · subst j17
        refine lv_tableIn (tgt := 715) (off := 682) hx hb dL_law_33 (by decide) (by decide) (by decide) (by decide) ?_
        exact law_canon (E := Ea E ad) (hA.2.2.2.2.2.2.2.2.2.2.2.2.2.2.2.2.2.1) hL hk6 hX hbl hbA C1 hI hW hl kN
      by_cases j18 : j = 18
      · subst j18
        refine lv_tableIn (tgt := 738) (off := 705) hx hb dL_law_33 (by decide) (by decide) (by decide) (by decide) ?_
        exact law_sea (E := Ea E ad) (hA.2.2.2.2.2.2.2.2.2.2.2.2.2.2.2.2.2.2.1) hL hk6 hX hbl hbA C1 hI hW hl kN
      by_cases j19 : j = 19
      · subst j19
        refine lv_tableIn (tgt := 771) (off := 738) hx hb dL_law_33 (by decide) (by decide) (by decide) (by decide) ?_
        exact law_lose (E := Ea E ad) (hA.2.2.2.2.2.2.2.2.2.2.2.2.2.2.2.2.2.2.2.1) hL hk6 hX hbl hbA C1 hI hW hl kN
      by_cases j20 : j = 20
      · subst j20
        refine lv_tableIn (tgt := 840) (off := 807) hx hb dL_law_33 (by decide) (by decide) (by decide) (by decide) ?_
        exact law_goes (E := Ea E ad) (hA.2.2.2.2.2.2.2.2.2.2.2.2.2.2.2.2.2.2.2.2.1) hL hk6 hX hbl hbA C1 hI hW hl kN
      by_cases j21 : j = 21
      · subst j21
        refine lv_tableIn (tgt := 873) (off := 840) hx hb dL_law_33 (by decide) (by decide) (by decide) (by decide) ?_
        exact law_knows (E := Ea E ad) (hA.2.2.2.2.2.2.2.2.2.2.2.2.2.2.2.2.2.2.2.2.2.1) hL hk6 hX hbl hbA C1 hI hW hl kN
      by_cases j22 : j = 22
      · subst j22
        refine lv_tableIn (tgt := 906) (off := 873) hx hb dL_law_33 (by decide) (by decide) (by decide) (by decide) ?_
        exact law_loss (E := Ea E ad) (hA.2.2.2.2.2.2.2.2.2.2.2.2.2.2.2.2.2.2.2.2.2.2.1) hL hk6 hX hbl hbA C1 hI hW hl kN
      by_cases j23 : j = 23
      · subst j23
        refine lv_tableIn (tgt := 959) (off := 926) hx hb dL_law_33 (by decide) (by decide) (by decide) (by decide) ?_
        exact law_lost (E := Ea E ad) (hA.2.2.2.2.2.2.2.2.2.2.2.2.2.2.2.2.2.2.2.2.2.2.2.1) hL hk6 hX hbl hbA C1 hI hW hl kN
      by_cases j24 : j = 24
      · subst j24
        refine lv_tableIn (tgt := 992) (off := 959) hx hb dL_law_33 (by decide) (by decide) (by decide) (by decide) ?_
        exact law_group (E := Ea E ad) (hA.2.2.2.2.2.2.2.2.2.2.2.2.2.2.2.2.2.2.2.2.2.2.2.2.1) hL hk6 hX hbl hbA C1 hI hW hl kN
      by_cases j25 : j = 25
      · subst j25
        refine lv_tableIn (tgt := 1005) (off := 972) hx hb dL_law_33 (by decide) (by decide) (by decide) (by decide) ?_
        exact law_clear (E := Ea E ad) (hA.2.2.2.2.2.2.2.2.2.2.2.2.2.2.2.2.2.2.2.2.2.2.2.2.2.1) hL hk6 hX hbl hbA C1 hI hW hl kN
      by_cases j26 : j = 26
      · subst j26
        refine lv_tableIn (tgt := 1018) (off := 985) hx hb dL_law_33 (by decide) (by decide) (by decide) (by decide) ?_
        exact law_most (E := Ea E ad) (hA.2.2.2.2.2.2.2.2.2.2.2.2.2.2.2.2.2.2.2.2.2.2.2.2.2.2.1) hL hk6 hX hbl hbA C1 hI hW hl kN
      by_cases j27 : j = 27
      · subst j27
        refine lv_tableIn (tgt := 1041) (off := 1008) hx hb dL_law_33 (by decide) (by decide) (by decide) (by decide) ?_
        exact law_net (E := Ea E ad) (hA.2.2.2.2.2.2.2.2.2.2.2.2.2.2.2.2.2.2.2.2.2.2.2.2.2.2.2.1) hL hk6 hX hbl hbA C1 hI hW hl kN
      by_cases j28 : j = 28
      · subst j28
        refine lv_tableIn (tgt := 1054) (off := 1021) hx hb dL_law_33 (by decide) (by decide) (by decide) (by decide) ?_
        exact law_image (E := Ea E ad) (hA.2.2.2.2.2.2.2.2.2.2.2.2.2.2.2.2.2.2.2.2.2.2.2.2.2.2.2.2.1) hL hk6 hX hbl hbA C1 hI hW hl kN
      by_cases j29 : j = 29
      · subst j29
        refine lv_tableIn (tgt := 1077) (off := 1044) hx hb dL_law_33 (by decide) (by decide) (by decide) (by decide) ?_
        exact law_restore (E := Ea E ad) (hA.2.2.2.2.2.2.2.2.2.2.2.2.2.2.2.2.2.2.2.2.2.2.2.2.2.2.2.2.2.1) hL hk6 hX hbl hbA C1 hI hW hl kN
      by_cases j30 : j = 30
      · subst j30
        refine lv_tableIn (tgt := 1100) (off := 1067) hx hb dL_law_33 (by decide) (by decide) (by decide) (by decide) ?_
        exact law_sheet (E := Ea E ad) (hA.2.2.2.2.2.2.2.2.2.2.2.2.2.2.2.2.2.2.2.2.2.2.2.2.2.2.2.2.2.2.1) hL hk6 hX hbl hbA C1 hI hW hl kN
      by_cases j31 : j = 31
      · subst j31
        refine lv_tableIn (tgt := 1143) (off := 1110) hx hb dL_law_33 (by decide) (by decide) (by decide) (by decide) ?_
        exact law_drop (E := Ea E ad) (hA.2.2.2.2.2.2.2.2.2.2.2.2.2.2.2.2.2.2.2.2.2.2.2.2.2.2.2.2.2.2.2.1) hL hk6 hX hbl hbA C1 hI hW hl kN
      by_cases j32 : j = 32
      · subst j32
        refine lv_tableIn (tgt := 1166) (off := 1133) hx hb dL_law_33 (by decide) (by decide) (by decide) (by decide) ?_
        exact law_item (E := Ea E ad) (hA.2.2.2.2.2.2.2.2.2.2.2.2.2.2.2.2.2.2.2.2.2.2.2.2.2.2.2.2.2.2.2.2.1) hL hk6 hX hbl hbA C1 hI hW hl kN
      by_cases j33 : j = 33
      · subst j33
        refine lv_tableIn (tgt := 1219) (off := 1186) hx hb dL_law_33 (by decide) (by decide) (by decide) (by decide) ?_
        exact law_copy (E := Ea E ad) (hA.2.2.2.2.2.2.2.2.2.2.2.2.2.2.2.2.2.2.2.2.2.2.2.2.2.2.2.2.2.2.2.2.2) hL hk6 hX hbl hbA C1 hI hW hl kN
      have ej2 : (nI j).toInt = (j : Int) := nI_toInt (by omega)
      refine lv_tableOut (tgt := 1282) hx hb dL_law_33 (by rw [ej2]; omega) (by decide) ?_
      exact kN ad S H locs ls _ _ (by omega) (by omega) rfl rfl hI hW hl
