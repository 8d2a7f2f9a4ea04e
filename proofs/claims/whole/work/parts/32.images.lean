/-! images: made when they are first kept -/
def ldM (S : St) (i : Int32) : Option Nat := if inB i 2 = true then some (rR S 10 i.toNatClampNeg) else none
/-- the first contents of an image's cells -/
def ini (o j : Nat) : Int32 := if o = 0 ∧ j = 3 then 21 else if o = 1 ∧ j = 1 then 500 else if o = 1 ∧ j = 2 then 7 else 0
def inG (n x : Nat) : Prop := 42 + 9 * n ≤ x ∧ x < 51 + 9 * n
def newI (S : St) (n : Nat) : St := (fun x j => if 42 + 9 * n ≤ x ∧ x < 51 + 9 * n then ini (x - (42 + 9 * n)) j else S.1 x j, fun x j => if 42 + 9 * n ≤ x ∧ x < 51 + 9 * n then 0 else S.2.1 x j, fun x j => if x = 10 ∧ j = n then 42 + 9 * n else S.2.2 x j)
/-- where the references that move lead -/
def okR (S : St) : Bool := decide (rR S 24 0 < 42) && decide (rR S 24 1 < 42) && decide (rR S 32 0 < 42) && decide (rR S 32 1 < 42) && (decide (rR S 10 0 = 0) || decide (rR S 10 0 = 42)) && (decide (rR S 10 1 = 0) || decide (rR S 10 1 = 51))
def X10_restore (S : St) (a1 : Int32) : Option (Int32 × St) :=
  if a1 < 0 then some (-1, S) else
  if a1 < 2 then
    (ldM S a1).bind fun y =>
    if y = 0 then some (-4, S) else
    (X1_take S 1 y).bind fun S1 => some (1, S1)
  else some (-1, S)
def X10_image (S : St) (a1 : Int32) : Option (Int32 × St) :=
  if a1 < 0 then some (-1, S) else
  if a1 < 2 then
    (ldM S a1).bind fun y =>
    (if y = 0 then (if okR S = true then X1_take (newI S a1.toNatClampNeg) (42 + 9 * a1.toNatClampNeg) 1 else none) else (ckO S y 1).bind fun _ => X1_take S y 1).bind fun S1 => some (1, S1)
  else some (-1, S)
section IMG
variable {p : Program} {l : Launch} {e : Env} {R : Room} {s : State} {m : MethodId} {args : Array Value} {below : List Frame} {meth : Method} {c : Code} {H : Heap} {locs : List Loc} {cells slots : Nat} {Q : State → Prop}
variable {cc : ByteArray} {nL pc : Nat} {ls : Array Slot} {rest : List Value} {E : En} {S S1 : St} {own : String} {Us : List Cond} {id : Nat} {i x v : Int32}
theorem g_imgN (C : Cx E p s m args c cc nL own Us) (hW : Ww E S s H locs) (h : ldM S i = some 0) (hdg : decode cc pc = .ok (.aaload, 1))
    (kk : W p l e R s m args below meth c H locs cells slots Q (F0 m (pc + 1) ls (.null :: rest))) : W p l e R s m args below meth c H locs cells slots Q (F0 m pc ls (.int i :: .ref (E.ad 10) :: rest)) := by
  obtain ⟨h3, h4⟩ := if_so h
  obtain ⟨j, hj, -⟩ := ws_at E (in_sid (id := 10) S rfl)
  refine va_aldq C.1.1 C.1.2.1 C.2.1 hW.1 j 5 (n := 2) (C := RX1) (f := fun k => if rR S 10 k = 0 then none else some (E.ad (rR S 10 k))) hj rfl (inB_in h3) hdg ?_
  rw [if_pos h4]
  exact kk
theorem g_imgR {y : Nat} (C : Cx E p s m args c cc nL own Us) (hW : Ww E S s H locs) (h : ldM S i = some y) (hy : ¬ y = 0) (hdg : decode cc pc = .ok (.aaload, 1))
    (kk : W p l e R s m args below meth c H locs cells slots Q (F0 m (pc + 1) ls (.ref (E.ad y) :: rest))) : W p l e R s m args below meth c H locs cells slots Q (F0 m pc ls (.int i :: .ref (E.ad 10) :: rest)) := by
  obtain ⟨h3, h4⟩ := if_so h
  obtain ⟨j, hj, -⟩ := ws_at E (in_sid (id := 10) S rfl)
  refine va_aldq C.1.1 C.1.2.1 C.2.1 hW.1 j 5 (n := 2) (C := RX1) (f := fun k => if rR S 10 k = 0 then none else some (E.ad (rR S 10 k))) hj rfl (inB_in h3) hdg ?_
  rw [if_neg (by rw [h4]; exact hy), h4]
  exact kk
end IMG
theorem k_RX10_264 : lkV RX10 RX1 264 yX1_take cX1_take 2 none 1 := ⟨⟨inUU (by decide +kernel), inUU (by decide +kernel), inUU (by decide +kernel), inUU (by decide +kernel), inUU (by decide +kernel)⟩, by decide +kernel⟩
abbrev rm_X10_restore : Room := { frames := 4, cells := 0, slots := 0, locals := 130 }
set_option maxHeartbeats 4000000 in
set_option maxRecDepth 100000 in
theorem c_X10_restore (l : Launch) (E : En) (S : St) (a1 : Int32) (r : Int32) (S1 : St) (hf : X10_restore S a1 = some (r, S1)) : Mi l E yX10_restore cX10_restore 2 (some .int) rm_X10_restore [.ref (E.ad 0), .int a1] S r S1 := by
  refine g_startI (cc := cX10_restore) (n := 2) (by decide) (Nat.le_of_ble_eq_true rfl) ?_
  intro p e s m args below meth c Q H locs C kR hW ls hl
  obtain ⟨⟨hx, hb, hml, hown, hts⟩, hK, hT⟩ := id C
  have hl : lv_has ls 2 [(0, .ref (E.ad 0)), (1, .int a1)] := hl
  unfold X10_restore at hf
  refine lv_iload_n hx hb dX10_restore_0 rfl (lv_at hl 1 rfl) ?_
  refine lv_if_lt (tgt := 9) hx hb dX10_restore_1 (by decide) (fun c1 => ?_) (fun c1 => ?_)
  · replace hf := ift_ hf c1
    refine lv_iconst (v := (-1)) hx hb dX10_restore_9 (by decide) ?_
    obtain ⟨rfl, rfl⟩ := so2 hf
    exact kR _ _ _ _ hW dX10_restore_10
  · replace hf := iff_ hf c1
    refine lv_iload_n hx hb dX10_restore_4 rfl (lv_at hl 1 rfl) ?_
    refine lv_iconst (v := 2) hx hb dX10_restore_5 (by decide) ?_
    refine lv_icmp_lt (tgt := 11) hx hb dX10_restore_6 (by decide) (fun c2 => ?_) (fun c2 => ?_)
    · replace hf := ift_ hf c2
      obtain ⟨y, h1, hf⟩ := bd_so hf
      refine lv_aload_n hx hb dX10_restore_11 rfl (lv_at hl 0 rfl) ?_
      refine g_get (ci := 10) (k := 1) (val := .ref (E.ad 10)) C g_us hW rfl rfl rfl (in_sid _ rfl) (by decide) f_RX10_16 rfl dX10_restore_12 ?_
      refine lv_iload_n hx hb dX10_restore_15 rfl (lv_at hl 1 rfl) ?_
      by_cases hy : y = 0
      · replace hf := ift_ hf hy
        subst hy
        refine g_imgN C hW h1 dX10_restore_16 ?_
        refine lv_ifnonnullN hx hb dX10_restore_17 ?_
        refine lv_bipush (v := (-4)) hx hb dX10_restore_20 (by decide) ?_
        obtain ⟨rfl, rfl⟩ := so2 hf
        exact kR _ _ _ _ hW dX10_restore_22
      · replace hf := iff_ hf hy
        obtain ⟨S2, h2, hf⟩ := bd_so hf
        refine g_imgR C hW h1 hy dX10_restore_16 ?_
        refine lv_ifnonnull (tgt := 23) hx hb dX10_restore_17 (by decide) ?_
        refine lv_aload_n hx hb dX10_restore_23 rfl (lv_at hl 0 rfl) ?_
        refine g_get (ci := 10) (k := 0) (val := .ref (E.ad 1)) C g_us hW rfl rfl rfl (in_sid _ rfl) (by decide) f_RX10_10 rfl dX10_restore_24 ?_
        refine lv_aload_n hx hb dX10_restore_27 rfl (lv_at hl 0 rfl) ?_
        refine g_get (ci := 10) (k := 1) (val := .ref (E.ad 10)) C g_us hW rfl rfl rfl (in_sid _ rfl) (by decide) f_RX10_16 rfl dX10_restore_28 ?_
        refine lv_iload_n hx hb dX10_restore_31 rfl (lv_at hl 1 rfl) ?_
        refine g_imgR C hW h1 hy dX10_restore_32 ?_
        refine g_callVv (ci := 1) (As := [.ref (E.ad y)]) (rest := []) C g_us hW hl.1 (c_X1_take l E S 1 y _ h2) rfl rfl rfl (in_sid _ rfl) k_RX10_264 rfl ⟨rfl, rfl⟩ ⟨Nat.le_of_ble_eq_true rfl, Nat.le_of_ble_eq_true rfl⟩ ⟨Nat.zero_le _, Nat.zero_le _⟩ _ rfl (Nat.le_of_ble_eq_true rfl) dX10_restore_33 (fun H locs hW => ?_)
        refine lv_iconst (v := 1) hx hb dX10_restore_36 (by decide) ?_
        obtain ⟨rfl, rfl⟩ := so2 hf
        exact kR _ _ _ _ hW dX10_restore_37
    · replace hf := iff_ hf c2
      refine lv_iconst (v := (-1)) hx hb dX10_restore_9 (by decide) ?_
      obtain ⟨rfl, rfl⟩ := so2 hf
      exact kR _ _ _ _ hW dX10_restore_10
