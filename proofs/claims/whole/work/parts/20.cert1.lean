abbrev rm_X6_add : Room := { frames := 1, cells := 0, slots := 0, locals := 60 }
set_option maxHeartbeats 4000000 in
set_option maxRecDepth 100000 in
theorem c_X6_add (l : Launch) (E : En) (S : St) (a1 : Int32) (r : Int32) (S1 : St) (hf : X6_add S a1 = some (r, S1)) : Mi l E yX6_add cX6_add 3 (some .int) rm_X6_add [.ref (E.ad 2), .int a1] S r S1 := by
  refine g_startI (cc := cX6_add) (n := 3) (by decide) (Nat.le_of_ble_eq_true rfl) ?_
  intro p e s m args below meth c Q H locs C kR hW ls hl
  obtain ⟨⟨hx, hb, hml, hown, hts⟩, hK, hT⟩ := id C
  have hl : lv_has ls 3 [(0, .ref (E.ad 2)), (1, .int a1)] := hl
  unfold X6_add at hf
  refine lv_aload_n hx hb dX6_add_0 rfl (lv_at hl 0 rfl) ?_
  refine g_get (ci := 6) (k := 0) (val := .int (rI S 2 0)) C g_us hW rfl rfl rfl (in_sid _ rfl) (by decide) f_RX6_28 rfl dX6_add_1 ?_
  refine lv_istore_n (lv' := [(2, .int (rI S 2 0)), (0, .ref (E.ad 2)), (1, .int a1)]) hx hb dX6_add_4 rfl hl (by decide) rfl (fun ls hl => ?_)
  refine lv_aload_n hx hb dX6_add_5 rfl (lv_at hl 1 rfl) ?_
  refine lv_dup hx hb dX6_add_6 rfl ?_
  refine g_get (ci := 6) (k := 0) (val := .int (rI S 2 0)) C g_us hW rfl rfl rfl (in_sid _ rfl) (by decide) f_RX6_28 rfl dX6_add_7 ?_
  refine lv_iconst (v := 1) hx hb dX6_add_10 (by decide) ?_
  refine lv_iadd hx hb dX6_add_11 ?_
  replace hf := bd_so hf
  obtain ⟨S1, h2, hf⟩ := hf
  refine g_putI (ci := 6) (k := 0) C g_us hW rfl rfl rfl (in_sid _ rfl) (by decide) f_RX6_28 rfl rfl rfl h2 dX6_add_12 (fun H locs hW => ?_)
  refine g_getsN1 C hW f_RX6_37 dX6_add_15 ?_
  refine lv_iconst (v := 0) hx hb dX6_add_18 (by decide) ?_
  refine lv_aload_n hx hb dX6_add_19 rfl (lv_at hl 1 rfl) ?_
  refine g_get (ci := 6) (k := 3) (val := .ref (E.ad 3)) C g_us hW rfl rfl rfl (in_sid _ rfl) (by decide) f_RX6_18 rfl dX6_add_20 ?_
  refine lv_iload_n hx hb dX6_add_23 rfl (lv_at hl 0 rfl) ?_
  refine lv_bipush (v := 6) hx hb dX6_add_24 (by decide) ?_
  refine lv_imul hx hb dX6_add_26 ?_
  refine lv_bipush (v := 6) hx hb dX6_add_27 (by decide) ?_
  replace hf := bd_so hf
  obtain ⟨S3, h4, hf⟩ := hf
  refine g_copyF C g_us hW hl.1 k_RX6_31 (Nat.le_of_ble_eq_true rfl) (Nat.le_of_ble_eq_true rfl) h4 dX6_add_29 (fun H locs hW => ?_)
  refine lv_aload_n hx hb dX6_add_32 rfl (lv_at hl 1 rfl) ?_
  refine g_get (ci := 6) (k := 3) (val := .ref (E.ad 3)) C g_us hW rfl rfl rfl (in_sid _ rfl) (by decide) f_RX6_18 rfl dX6_add_33 ?_
  refine lv_iload_n hx hb dX6_add_36 rfl (lv_at hl 0 rfl) ?_
  refine lv_bipush (v := 6) hx hb dX6_add_37 (by decide) ?_
  refine lv_imul hx hb dX6_add_39 ?_
  refine lv_iconst (v := 0) hx hb dX6_add_40 (by decide) ?_
  refine lv_iadd hx hb dX6_add_41 ?_
  refine lv_iload_n hx hb dX6_add_42 rfl (lv_at hl 2 rfl) ?_
  replace hf := bd_so hf
  obtain ⟨S5, h6, hf⟩ := hf
  refine g_iast C hW h6 dX6_add_43 (fun H locs hW => ?_)
  refine lv_iload_n hx hb dX6_add_44 rfl (lv_at hl 0 rfl) ?_
  obtain ⟨rfl, rfl⟩ := so2 hf
  exact kR _ _ _ _ hW dX6_add_45

abbrev rm_X6_has : Room := { frames := 1, cells := 0, slots := 0, locals := 60 }
set_option maxHeartbeats 4000000 in
set_option maxRecDepth 100000 in
theorem c_X6_has (l : Launch) (E : En) (S : St) (a1 : Int32) (r : Int32) (hf : X6_has S a1 = some r) : Mi l E yX6_has cX6_has 2 (some .boolean) rm_X6_has [.ref (E.ad 2), .int a1] S r S := by
  refine g_startZ (cc := cX6_has) (n := 2) (by decide) (Nat.le_of_ble_eq_true rfl) ?_
  intro p e s m args below meth c Q H locs C kR hW ls hl
  obtain ⟨⟨hx, hb, hml, hown, hts⟩, hK, hT⟩ := id C
  have hl : lv_has ls 2 [(0, .ref (E.ad 2)), (1, .int a1)] := hl
  unfold X6_has at hf
  refine lv_iload_n hx hb dX6_has_0 rfl (lv_at hl 1 rfl) ?_
  refine lv_if_lt (tgt := 16) hx hb dX6_has_1 (by decide) (fun c1 => ?_) (fun c1 => ?_)
  · replace hf := ift_ hf c1
    refine lv_iconst (v := 0) hx hb dX6_has_16 (by decide) ?_
    obtain rfl := so1 hf
    exact kR _ _ _ _ hW (Or.inl rfl) dX6_has_17
  · replace hf := iff_ hf c1
    refine lv_iload_n hx hb dX6_has_4 rfl (lv_at hl 1 rfl) ?_
    refine lv_aload_n hx hb dX6_has_5 rfl (lv_at hl 0 rfl) ?_
    refine g_get (ci := 6) (k := 0) (val := .int (rI S 2 0)) C g_us hW rfl rfl rfl (in_sid _ rfl) (by decide) f_RX6_28 rfl dX6_has_6 ?_
    refine lv_icmp_ge (tgt := 16) hx hb dX6_has_9 (by decide) (fun c2 => ?_) (fun c2 => ?_)
    · replace hf := ift_ hf c2
      refine lv_iconst (v := 0) hx hb dX6_has_16 (by decide) ?_
      obtain rfl := so1 hf
      exact kR _ _ _ _ hW (Or.inl rfl) dX6_has_17
    · replace hf := iff_ hf c2
      refine lv_iconst (v := 1) hx hb dX6_has_12 (by decide) ?_
      refine lv_goto (tgt := 17) hx hb dX6_has_13 (by decide) ?_
      obtain rfl := so1 hf
      exact kR _ _ _ _ hW (Or.inr rfl) dX6_has_17

abbrev rm_X6_hasTwo : Room := { frames := 2, cells := 0, slots := 0, locals := 81 }
set_option maxHeartbeats 4000000 in
set_option maxRecDepth 100000 in
theorem c_X6_hasTwo (l : Launch) (E : En) (S : St) (a1 : Int32) (a2 : Int32) (r : Int32) (hf : X6_hasTwo S a1 a2 = some r) : Mi l E yX6_hasTwo cX6_hasTwo 3 (some .boolean) rm_X6_hasTwo [.ref (E.ad 2), .int a1, .int a2] S r S := by
  refine g_startZ (cc := cX6_hasTwo) (n := 3) (by decide) (Nat.le_of_ble_eq_true rfl) ?_
  intro p e s m args below meth c Q H locs C kR hW ls hl
  obtain ⟨⟨hx, hb, hml, hown, hts⟩, hK, hT⟩ := id C
  have hl : lv_has ls 3 [(0, .ref (E.ad 2)), (1, .int a1), (2, .int a2)] := hl
  unfold X6_hasTwo at hf
  refine lv_aload_n hx hb dX6_hasTwo_0 rfl (lv_at hl 0 rfl) ?_
  refine lv_iload_n hx hb dX6_hasTwo_1 rfl (lv_at hl 1 rfl) ?_
  replace hf := bd_so hf
  obtain ⟨x2, h1, hf⟩ := hf
  refine g_callVi (ci := 6) (As := [.int a1]) (rest := []) C g_us hW hl.1 (c_X6_has l E S a1 _ h1) rfl rfl rfl (in_sid _ rfl) k_RX6_40 rfl ⟨rfl, rfl⟩ ⟨Nat.le_of_ble_eq_true rfl, Nat.le_of_ble_eq_true rfl⟩ ⟨Nat.zero_le _, Nat.zero_le _⟩ _ rfl (Nat.le_of_ble_eq_true rfl) dX6_hasTwo_2 (fun H locs hW => ?_)
  refine lv_if_eq (tgt := 25) hx hb dX6_hasTwo_5 (by decide) (fun c3 => ?_) (fun c3 => ?_)
  · replace hf := ift_ hf c3
    refine lv_iconst (v := 0) hx hb dX6_hasTwo_25 (by decide) ?_
    obtain rfl := so1 hf
    exact kR _ _ _ _ hW (Or.inl rfl) dX6_hasTwo_26
  · replace hf := iff_ hf c3
    refine lv_aload_n hx hb dX6_hasTwo_8 rfl (lv_at hl 0 rfl) ?_
    refine lv_iload_n hx hb dX6_hasTwo_9 rfl (lv_at hl 2 rfl) ?_
    replace hf := bd_so hf
    obtain ⟨x5, h4, hf⟩ := hf
    refine g_callVi (ci := 6) (As := [.int a2]) (rest := []) C g_us hW hl.1 (c_X6_has l E S a2 _ h4) rfl rfl rfl (in_sid _ rfl) k_RX6_40 rfl ⟨rfl, rfl⟩ ⟨Nat.le_of_ble_eq_true rfl, Nat.le_of_ble_eq_true rfl⟩ ⟨Nat.zero_le _, Nat.zero_le _⟩ _ rfl (Nat.le_of_ble_eq_true rfl) dX6_hasTwo_10 (fun H locs hW => ?_)
    refine lv_if_eq (tgt := 25) hx hb dX6_hasTwo_13 (by decide) (fun c6 => ?_) (fun c6 => ?_)
    · replace hf := ift_ hf c6
      refine lv_iconst (v := 0) hx hb dX6_hasTwo_25 (by decide) ?_
      obtain rfl := so1 hf
      exact kR _ _ _ _ hW (Or.inl rfl) dX6_hasTwo_26
    · replace hf := iff_ hf c6
      refine lv_iload_n hx hb dX6_hasTwo_16 rfl (lv_at hl 1 rfl) ?_
      refine lv_iload_n hx hb dX6_hasTwo_17 rfl (lv_at hl 2 rfl) ?_
      refine lv_icmp_eq (tgt := 25) hx hb dX6_hasTwo_18 (by decide) (fun c7 => ?_) (fun c7 => ?_)
      · replace hf := ift_ hf c7
        refine lv_iconst (v := 0) hx hb dX6_hasTwo_25 (by decide) ?_
        obtain rfl := so1 hf
        exact kR _ _ _ _ hW (Or.inl rfl) dX6_hasTwo_26
      · replace hf := iff_ hf c7
        refine lv_iconst (v := 1) hx hb dX6_hasTwo_21 (by decide) ?_
        refine lv_goto (tgt := 26) hx hb dX6_hasTwo_22 (by decide) ?_
        obtain rfl := so1 hf
        exact kR _ _ _ _ hW (Or.inr rfl) dX6_hasTwo_26

abbrev rm_X6_change : Room := { frames := 2, cells := 0, slots := 0, locals := 82 }
set_option maxHeartbeats 4000000 in
set_option maxRecDepth 100000 in
theorem c_X6_change (l : Launch) (E : En) (S : St) (a1 : Int32) (a2 : Int32) (a3 : Int32) (r : Int32) (S1 : St) (hf : X6_change S a1 a2 a3 = some (r, S1)) : Mi l E yX6_change cX6_change 5 (some .int) rm_X6_change [.ref (E.ad 2), .int a1, .int a2, .int a3] S r S1 := by
  refine g_startI (cc := cX6_change) (n := 5) (by decide) (Nat.le_of_ble_eq_true rfl) ?_
  intro p e s m args below meth c Q H locs C kR hW ls hl
  obtain ⟨⟨hx, hb, hml, hown, hts⟩, hK, hT⟩ := id C
  have hl : lv_has ls 5 [(0, .ref (E.ad 2)), (1, .int a1), (2, .int a2), (3, .int a3)] := hl
  unfold X6_change at hf
  refine lv_aload_n hx hb dX6_change_0 rfl (lv_at hl 0 rfl) ?_
  refine lv_iload_n hx hb dX6_change_1 rfl (lv_at hl 1 rfl) ?_
  refine lv_iload_n hx hb dX6_change_2 rfl (lv_at hl 2 rfl) ?_
  replace hf := bd_so hf
  obtain ⟨x2, h1, hf⟩ := hf
  refine g_callVi (ci := 6) (As := [.int a1, .int a2]) (rest := []) C g_us hW hl.1 (c_X6_value l E S a1 a2 _ h1) rfl rfl rfl (in_sid _ rfl) k_RX6_44 rfl ⟨rfl, rfl⟩ ⟨Nat.le_of_ble_eq_true rfl, Nat.le_of_ble_eq_true rfl⟩ ⟨Nat.zero_le _, Nat.zero_le _⟩ _ rfl (Nat.le_of_ble_eq_true rfl) dX6_change_3 (fun H locs hW => ?_)
  refine lv_istore (lv' := [(4, .int x2), (0, .ref (E.ad 2)), (1, .int a1), (2, .int a2), (3, .int a3)]) hx hb dX6_change_6 hl (by decide) rfl (fun ls hl => ?_)
  refine lv_aload_n hx hb dX6_change_8 rfl (lv_at hl 1 rfl) ?_
  refine g_get (ci := 6) (k := 3) (val := .ref (E.ad 3)) C g_us hW rfl rfl rfl (in_sid _ rfl) (by decide) f_RX6_18 rfl dX6_change_9 ?_
  refine lv_iload_n hx hb dX6_change_12 rfl (lv_at hl 2 rfl) ?_
  refine lv_bipush (v := 6) hx hb dX6_change_13 (by decide) ?_
  refine lv_imul hx hb dX6_change_15 ?_
  refine lv_iload_n hx hb dX6_change_16 rfl (lv_at hl 3 rfl) ?_
  refine lv_iadd hx hb dX6_change_17 ?_
  refine lv_iload_n hx hb dX6_change_18 rfl (lv_at hl 4 rfl) ?_
  replace hf := bd_so hf
  obtain ⟨S3, h4, hf⟩ := hf
  refine g_iast C hW h4 dX6_change_19 (fun H locs hW => ?_)
  refine lv_iload hx hb dX6_change_20 (lv_at hl 0 rfl) ?_
  obtain ⟨rfl, rfl⟩ := so2 hf
  exact kR _ _ _ _ hW dX6_change_22

abbrev rm_X6_all : Room := { frames := 1, cells := 0, slots := 0, locals := 60 }
set_option maxHeartbeats 4000000 in
set_option maxRecDepth 100000 in
theorem c_X6_all (l : Launch) (E : En) (S : St) (r : Int32) (hf : X6_all S  = some r) : Mi l E yX6_all cX6_all 1 (some .int) rm_X6_all [.ref (E.ad 2)] S r S := by
  refine g_startI (cc := cX6_all) (n := 1) (by decide) (Nat.le_of_ble_eq_true rfl) ?_
  intro p e s m args below meth c Q H locs C kR hW ls hl
  obtain ⟨⟨hx, hb, hml, hown, hts⟩, hK, hT⟩ := id C
  have hl : lv_has ls 1 [(0, .ref (E.ad 2))] := hl
  unfold X6_all at hf
  refine lv_iconst (v := 1) hx hb dX6_all_0 (by decide) ?_
  refine lv_aload_n hx hb dX6_all_1 rfl (lv_at hl 0 rfl) ?_
  refine g_get (ci := 6) (k := 0) (val := .int (rI S 2 0)) C g_us hW rfl rfl rfl (in_sid _ rfl) (by decide) f_RX6_28 rfl dX6_all_2 ?_
  refine lv_ishl hx hb dX6_all_5 ?_
  refine lv_iconst (v := 1) hx hb dX6_all_6 (by decide) ?_
  refine lv_isub hx hb dX6_all_7 ?_
  obtain rfl := so1 hf
  exact kR _ _ _ _ hW dX6_all_8

abbrev rm_X6_uncut : Room := { frames := 3, cells := 0, slots := 0, locals := 103 }
set_option maxHeartbeats 4000000 in
set_option maxRecDepth 100000 in
theorem c_X6_uncut (l : Launch) (E : En) (S : St) (r : Int32) (hf : X6_uncut S  = some r) : Mi l E yX6_uncut cX6_uncut 3 (some .int) rm_X6_uncut [.ref (E.ad 2)] S r S := by
  refine g_startI (cc := cX6_uncut) (n := 3) (by decide) (Nat.le_of_ble_eq_true rfl) ?_
  intro p e s m args below meth c Q H locs C kR hW ls hl
  obtain ⟨⟨hx, hb, hml, hown, hts⟩, hK, hT⟩ := id C
  have hl : lv_has ls 3 [(0, .ref (E.ad 2))] := hl
  have X6_uncut_L4_c : ∀ (S : St) (res : Int32) (n : Nat) (v1 : Int32) (v2 : Int32) (H : Heap) (locs : List Loc) (ls : Array Slot), Ww E S s H locs → lv_has ls 3 [(0, .ref (E.ad 2)), (1, .int v1), (2, .int v2)] → X6_uncut_L4 S  n v1 v2 = some res → (∀ (w1 : Int32) (H : Heap) (locs : List Loc) (ls : Array Slot), some w1 = some res → Ww E S s H locs → lv_has ls 3 [(1, .int w1)] → W p l e rm_X6_uncut s m args below meth c H locs 0 0 Q (F0 m 36 ls [])) → W p l e rm_X6_uncut s m args below meth c H locs 0 0 Q (F0 m 4 ls []) := by
    intro S  res n
    induction n with
    | zero =>
      intro v1 v2 H locs ls hW hl hf
      cases hf
    | succ n ih =>
      intro v1 v2 H locs ls hW hl hf kE
      unfold X6_uncut_L4 at hf
      refine lv_iload_n hx hb dX6_uncut_4 rfl (lv_at hl 2 rfl) ?_
      refine lv_aload_n hx hb dX6_uncut_5 rfl (lv_at hl 0 rfl) ?_
      refine g_get (ci := 6) (k := 0) (val := .int (rI S 2 0)) C g_us hW rfl rfl rfl (in_sid _ rfl) (by decide) f_RX6_28 rfl dX6_uncut_6 ?_
      refine lv_icmp_ge (tgt := 36) hx hb dX6_uncut_9 (by decide) (fun c1 => ?_) (fun c1 => ?_)
      · replace hf := ift_ hf c1
        exact kE _ _ _ _ hf hW (lv_sub hl [1] rfl)
      · replace hf := iff_ hf c1
        refine lv_iload_n hx hb dX6_uncut_12 rfl (lv_at hl 1 rfl) ?_
        refine lv_aload_n hx hb dX6_uncut_13 rfl (lv_at hl 0 rfl) ?_
        refine lv_iload_n hx hb dX6_uncut_14 rfl (lv_at hl 2 rfl) ?_
        replace hf := bd_so hf
        obtain ⟨x3, h2, hf⟩ := hf
        refine g_callVi (ci := 6) (As := [.int v2]) (rest := [.int v1]) C g_us hW hl.1 (c_X6_isCut l E S v2 _ h2) rfl rfl rfl (in_sid _ rfl) k_RX6_51 rfl ⟨rfl, rfl⟩ ⟨Nat.le_of_ble_eq_true rfl, Nat.le_of_ble_eq_true rfl⟩ ⟨Nat.zero_le _, Nat.zero_le _⟩ _ rfl (Nat.le_of_ble_eq_true rfl) dX6_uncut_15 (fun H locs hW => ?_)
        replace hf := bd_so hf
        obtain ⟨x5, h6, hf⟩ := hf
        have J7 : ∀ (H : Heap) (locs : List Loc) (ls : Array Slot), Ww E S s H locs → lv_has ls 3 [(0, .ref (E.ad 2)), (2, .int v2)] → W p l e rm_X6_uncut s m args below meth c H locs 0 0 Q (F0 m 28 ls [.int x5, .int v1]) := by
          intro H locs ls hW hl
          refine lv_ior hx hb dX6_uncut_28 ?_
          refine lv_istore_n (lv' := [(1, .int (v1 ||| x5)), (0, .ref (E.ad 2)), (2, .int v2)]) hx hb dX6_uncut_29 rfl hl (by decide) rfl (fun ls hl => ?_)
          refine lv_iinc (v := (v2 + 1)) (lv' := [(2, .int (v2 + 1)), (1, .int (v1 ||| x5)), (0, .ref (E.ad 2))]) hx hb dX6_uncut_30 hl (k := 2) rfl rfl (by decide) rfl (fun ls hl => ?_)
          refine lv_goto (tgt := 4) hx hb dX6_uncut_33 (by decide) ?_
          exact ih _ _ _ _ _ hW (lv_sub hl [2, 1, 0] rfl) hf kE
        clear hf
        have hf := h6
        clear h6
        refine lv_if_eq (tgt := 25) hx hb dX6_uncut_18 (by decide) (fun c4 => ?_) (fun c4 => ?_)
        · replace hf := ift_ hf c4
          refine lv_iconst (v := 1) hx hb dX6_uncut_25 (by decide) ?_
          refine lv_iload_n hx hb dX6_uncut_26 rfl (lv_at hl 2 rfl) ?_
          refine lv_ishl hx hb dX6_uncut_27 ?_
          obtain rfl := so1 hf
          exact J7 _ _ _ hW (lv_sub hl [0, 2] rfl)
        · replace hf := iff_ hf c4
          refine lv_iconst (v := 0) hx hb dX6_uncut_21 (by decide) ?_
          refine lv_goto (tgt := 28) hx hb dX6_uncut_22 (by decide) ?_
          obtain rfl := so1 hf
          exact J7 _ _ _ hW (lv_sub hl [0, 2] rfl)
  unfold X6_uncut at hf
  refine lv_iconst (v := 0) hx hb dX6_uncut_0 (by decide) ?_
  refine lv_istore_n (lv' := [(1, .int 0), (0, .ref (E.ad 2))]) hx hb dX6_uncut_1 rfl hl (by decide) rfl (fun ls hl => ?_)
  refine lv_iconst (v := 0) hx hb dX6_uncut_2 (by decide) ?_
  refine lv_istore_n (lv' := [(2, .int 0), (1, .int 0), (0, .ref (E.ad 2))]) hx hb dX6_uncut_3 rfl hl (by decide) rfl (fun ls hl => ?_)
  replace hf := bd_so hf
  obtain ⟨x8, h9, hf⟩ := hf
  have J10 : ∀ (H : Heap) (locs : List Loc) (ls : Array Slot), Ww E S s H locs → lv_has ls 3 [(1, .int x8)] → W p l e rm_X6_uncut s m args below meth c H locs 0 0 Q (F0 m 36 ls []) := by
    intro H locs ls hW hl
    refine lv_iload_n hx hb dX6_uncut_36 rfl (lv_at hl 0 rfl) ?_
    obtain rfl := so1 hf
    exact kR _ _ _ _ hW dX6_uncut_37
  exact X6_uncut_L4_c _ _ FU _ _ _ _ _ hW (lv_sub hl [2, 1, 0] rfl) h9 (fun _ H locs ls e hW hl => by cases e; exact J10 H locs ls hW hl)

abbrev rm_X6_lay : Room := { frames := 2, cells := 0, slots := 0, locals := 82 }
set_option maxHeartbeats 4000000 in
set_option maxRecDepth 100000 in
theorem c_X6_lay (l : Launch) (E : En) (S : St) (a1 : Int32) (a2 : Int32) (a3 : Int32) (r : Int32) (S1 : St) (hf : X6_lay S a1 a2 a3 = some (r, S1)) : Mi l E yX6_lay cX6_lay 5 (some .int) rm_X6_lay [.ref (E.ad 2), .int a1, .int a2, .int a3] S r S1 := by
  refine g_startI (cc := cX6_lay) (n := 5) (by decide) (Nat.le_of_ble_eq_true rfl) ?_
  intro p e s m args below meth c Q H locs C kR hW ls hl
  obtain ⟨⟨hx, hb, hml, hown, hts⟩, hK, hT⟩ := id C
  have hl : lv_has ls 5 [(0, .ref (E.ad 2)), (1, .int a1), (2, .int a2), (3, .int a3)] := hl
  unfold X6_lay at hf
  refine lv_aload_n hx hb dX6_lay_0 rfl (lv_at hl 0 rfl) ?_
  refine lv_iload_n hx hb dX6_lay_1 rfl (lv_at hl 1 rfl) ?_
  refine lv_iload_n hx hb dX6_lay_2 rfl (lv_at hl 2 rfl) ?_
  replace hf := bd_so hf
  obtain ⟨x2, h1, hf⟩ := hf
  refine g_callVi (ci := 6) (As := [.int a1, .int a2]) (rest := []) C g_us hW hl.1 (c_X6_between l E S a1 a2 _ h1) rfl rfl rfl (in_sid _ rfl) k_RX6_54 rfl ⟨rfl, rfl⟩ ⟨Nat.le_of_ble_eq_true rfl, Nat.le_of_ble_eq_true rfl⟩ ⟨Nat.zero_le _, Nat.zero_le _⟩ _ rfl (Nat.le_of_ble_eq_true rfl) dX6_lay_3 (fun H locs hW => ?_)
  refine lv_istore (lv' := [(4, .int x2), (0, .ref (E.ad 2)), (1, .int a1), (2, .int a2), (3, .int a3)]) hx hb dX6_lay_6 hl (by decide) rfl (fun ls hl => ?_)
  refine lv_aload_n hx hb dX6_lay_8 rfl (lv_at hl 1 rfl) ?_
  refine g_get (ci := 6) (k := 4) (val := .ref (E.ad 4)) C g_us hW rfl rfl rfl (in_sid _ rfl) (by decide) f_RX6_22 rfl dX6_lay_9 ?_
  refine lv_iload_n hx hb dX6_lay_12 rfl (lv_at hl 2 rfl) ?_
  refine lv_bipush (v := 8) hx hb dX6_lay_13 (by decide) ?_
  refine lv_imul hx hb dX6_lay_15 ?_
  refine lv_iload_n hx hb dX6_lay_16 rfl (lv_at hl 3 rfl) ?_
  refine lv_iadd hx hb dX6_lay_17 ?_
  refine lv_iload_n hx hb dX6_lay_18 rfl (lv_at hl 4 rfl) ?_
  replace hf := bd_so hf
  obtain ⟨S3, h4, hf⟩ := hf
  refine g_iast C hW h4 dX6_lay_19 (fun H locs hW => ?_)
  refine lv_iload hx hb dX6_lay_20 (lv_at hl 0 rfl) ?_
  obtain ⟨rfl, rfl⟩ := so2 hf
  exact kR _ _ _ _ hW dX6_lay_22

abbrev rm_X6_canLayAll : Room := { frames := 1, cells := 0, slots := 0, locals := 60 }
set_option maxHeartbeats 4000000 in
set_option maxRecDepth 100000 in
theorem c_X6_canLayAll (l : Launch) (E : En) (S : St) (a2 : Nat) (a1 : Int32) (a3 : Int32) (r : Int32) (hf : X6_canLayAll S a2 a1 a3 = some r) : Mi l E yX6_canLayAll cX6_canLayAll 6 (some .boolean) rm_X6_canLayAll [.ref (E.ad 2), .int a1, .ref (E.ad a2), .int a3] S r S := by
  refine g_startZ (cc := cX6_canLayAll) (n := 6) (by decide) (Nat.le_of_ble_eq_true rfl) ?_
  intro p e s m args below meth c Q H locs C kR hW ls hl
  obtain ⟨⟨hx, hb, hml, hown, hts⟩, hK, hT⟩ := id C
  have hl : lv_has ls 6 [(0, .ref (E.ad 2)), (1, .int a1), (2, .ref (E.ad a2)), (3, .int a3)] := hl
  have X6_canLayAll_L3_c : ∀ (S : St) (v1 : Int32) (v2 : Nat) (v3 : Int32) (res : (Unit) ⊕ (Int32)) (n : Nat) (v4 : Int32) (H : Heap) (locs : List Loc) (ls : Array Slot), Ww E S s H locs → lv_has ls 6 [(0, .ref (E.ad 2)), (1, .int v1), (2, .ref (E.ad v2)), (3, .int v3), (4, .int v4)] → X6_canLayAll_L3 S v1 v2 v3 n v4 = some res → (∀ (H : Heap) (locs : List Loc) (ls : Array Slot), some (.inl ()) = some res → Ww E S s H locs → lv_has ls 6 [] → W p l e rm_X6_canLayAll s m args below meth c H locs 0 0 Q (F0 m 55 ls [])) → (∀ (r0 : Int32) (H : Heap) (locs : List Loc) (pc : Nat) (ls : Array Slot), some (.inr r0) = some res → Ww E S s H locs → (r0 = 0 ∨ r0 = 1) → decode cX6_canLayAll pc = .ok (.ireturn, 1) → W p l e rm_X6_canLayAll s m args below meth c H locs 0 0 Q (F0 m pc ls [.int r0])) → W p l e rm_X6_canLayAll s m args below meth c H locs 0 0 Q (F0 m 3 ls []) := by
    intro S v1 v2 v3 res n
    induction n with
    | zero =>
      intro v4 H locs ls hW hl hf
      cases hf
    | succ n ih =>
      intro v4 H locs ls hW hl hf kE kR
      unfold X6_canLayAll_L3 at hf
      refine lv_iload hx hb dX6_canLayAll_3 (lv_at hl 4 rfl) ?_
      refine lv_aload_n hx hb dX6_canLayAll_5 rfl (lv_at hl 0 rfl) ?_
      refine g_get (ci := 6) (k := 0) (val := .int (rI S 2 0)) C g_us hW rfl rfl rfl (in_sid _ rfl) (by decide) f_RX6_28 rfl dX6_canLayAll_6 ?_
      refine lv_icmp_ge (tgt := 55) hx hb dX6_canLayAll_9 (by decide) (fun c1 => ?_) (fun c1 => ?_)
      · replace hf := ift_ hf c1
        exact kE  _ _ _ hf hW (lv_sub hl [] rfl)
      · replace hf := iff_ hf c1
        refine lv_aload_n hx hb dX6_canLayAll_12 rfl (lv_at hl 2 rfl) ?_
        replace hf := bd_so hf
        obtain ⟨_, h2, hf⟩ := hf
        refine g_get (ci := 7) (k := 2) (val := .ref (E.ad (v2 + 1))) C g_us hW rfl (if_so h2).1.1 (if_so h2).1.2.1 (if_so h2).1.2.2 (by decide) f_RX6_57 rfl dX6_canLayAll_13 ?_
        refine lv_iload_n hx hb dX6_canLayAll_16 rfl (lv_at hl 3 rfl) ?_
        refine lv_iload hx hb dX6_canLayAll_17 (lv_at hl 4 rfl) ?_
        refine lv_iadd hx hb dX6_canLayAll_19 ?_
        replace hf := bd_so hf
        obtain ⟨x3, h4, hf⟩ := hf
        refine g_iald C hW h4 dX6_canLayAll_20 ?_
        refine lv_istore (lv' := [(5, .int x3), (0, .ref (E.ad 2)), (1, .int v1), (2, .ref (E.ad v2)), (3, .int v3), (4, .int v4)]) hx hb dX6_canLayAll_21 hl (by decide) rfl (fun ls hl => ?_)
        refine lv_iload hx hb dX6_canLayAll_23 (lv_at hl 0 rfl) ?_
        refine lv_if_lt (tgt := 47) hx hb dX6_canLayAll_25 (by decide) (fun c5 => ?_) (fun c5 => ?_)
        · replace hf := ift_ hf c5
          refine lv_iconst (v := 0) hx hb dX6_canLayAll_47 (by decide) ?_
          exact kR _ _ _ _ _ hf hW (Or.inl rfl) dX6_canLayAll_48
        · replace hf := iff_ hf c5
          refine lv_iload hx hb dX6_canLayAll_28 (lv_at hl 0 rfl) ?_
          refine lv_sipush (v := 400) hx hb dX6_canLayAll_30 (by decide) ?_
          refine lv_icmp_gt (tgt := 47) hx hb dX6_canLayAll_33 (by decide) (fun c6 => ?_) (fun c6 => ?_)
          · replace hf := ift_ hf c6
            refine lv_iconst (v := 0) hx hb dX6_canLayAll_47 (by decide) ?_
            exact kR _ _ _ _ _ hf hW (Or.inl rfl) dX6_canLayAll_48
          · replace hf := iff_ hf c6
            refine lv_iload hx hb dX6_canLayAll_36 (lv_at hl 5 rfl) ?_
            refine lv_iload_n hx hb dX6_canLayAll_38 rfl (lv_at hl 2 rfl) ?_
            refine lv_icmp_ne (tgt := 49) hx hb dX6_canLayAll_39 (by decide) (fun c7 => ?_) (fun c7 => ?_)
            · replace hf := iff_ hf c7
              refine lv_iinc (v := (v4 + 1)) (lv' := [(4, .int (v4 + 1)), (5, .int x3), (0, .ref (E.ad 2)), (1, .int v1), (2, .ref (E.ad v2)), (3, .int v3)]) hx hb dX6_canLayAll_49 hl (k := 5) rfl rfl (by decide) rfl (fun ls hl => ?_)
              refine lv_goto (tgt := 3) hx hb dX6_canLayAll_52 (by decide) ?_
              exact ih _ _ _ _ hW (lv_sub hl [2, 3, 4, 5, 0] rfl) hf kE kR
            · replace hf := ift_ hf c7
              refine lv_iload hx hb dX6_canLayAll_42 (lv_at hl 0 rfl) ?_
              refine lv_if_eq (tgt := 49) hx hb dX6_canLayAll_44 (by decide) (fun c8 => ?_) (fun c8 => ?_)
              · replace hf := ift_ hf c8
                refine lv_iinc (v := (v4 + 1)) (lv' := [(4, .int (v4 + 1)), (5, .int x3), (0, .ref (E.ad 2)), (1, .int v1), (2, .ref (E.ad v2)), (3, .int v3)]) hx hb dX6_canLayAll_49 hl (k := 5) rfl rfl (by decide) rfl (fun ls hl => ?_)
                refine lv_goto (tgt := 3) hx hb dX6_canLayAll_52 (by decide) ?_
                exact ih _ _ _ _ hW (lv_sub hl [2, 3, 4, 5, 0] rfl) hf kE kR
              · replace hf := iff_ hf c8
                refine lv_iconst (v := 0) hx hb dX6_canLayAll_47 (by decide) ?_
                exact kR _ _ _ _ _ hf hW (Or.inl rfl) dX6_canLayAll_48
  unfold X6_canLayAll at hf
  refine lv_iconst (v := 0) hx hb dX6_canLayAll_0 (by decide) ?_
  refine lv_istore (lv' := [(4, .int 0), (0, .ref (E.ad 2)), (1, .int a1), (2, .ref (E.ad a2)), (3, .int a3)]) hx hb dX6_canLayAll_1 hl (by decide) rfl (fun ls hl => ?_)
  replace hf := bd_so hf
  obtain ⟨t, h9, hf⟩ := hf
  rcases t with u | x11
  · dsimp only at hf
    have J10 : ∀ (H : Heap) (locs : List Loc) (ls : Array Slot), Ww E S s H locs → lv_has ls 6 [] → W p l e rm_X6_canLayAll s m args below meth c H locs 0 0 Q (F0 m 55 ls []) := by
      intro H locs ls hW hl
      refine lv_iconst (v := 1) hx hb dX6_canLayAll_55 (by decide) ?_
      obtain rfl := so1 hf
      exact kR _ _ _ _ hW (Or.inr rfl) dX6_canLayAll_56
    exact X6_canLayAll_L3_c _ _ _ _ _ FU _ _ _ _ hW (lv_sub hl [1, 2, 3, 4, 0] rfl) h9 (fun H locs ls e hW hl => by cases e; exact J10 H locs ls hW hl) (fun _ H locs pc ls e hW hz dd => by cases e)
  · dsimp only at hf
    refine X6_canLayAll_L3_c _ _ _ _ _ FU _ _ _ _ hW (lv_sub hl [1, 2, 3, 4, 0] rfl) h9 (fun H locs ls e hW hl => by cases e) (fun _ H locs pc ls e hW hz dd => ?_)
    cases e
    obtain rfl := so1 hf
    exact kR _ _ _ _ hW hz dd

abbrev rm_X6_layAll : Room := { frames := 3, cells := 0, slots := 0, locals := 106 }
set_option maxHeartbeats 4000000 in
set_option maxRecDepth 100000 in
theorem c_X6_layAll (l : Launch) (E : En) (S : St) (a2 : Nat) (a1 : Int32) (a3 : Int32) (r : Int32) (S1 : St) (hf : X6_layAll S a2 a1 a3 = some (r, S1)) : Mi l E yX6_layAll cX6_layAll 6 (some .int) rm_X6_layAll [.ref (E.ad 2), .int a1, .ref (E.ad a2), .int a3] S r S1 := by
  refine g_startI (cc := cX6_layAll) (n := 6) (by decide) (Nat.le_of_ble_eq_true rfl) ?_
  intro p e s m args below meth c Q H locs C kR hW ls hl
  obtain ⟨⟨hx, hb, hml, hown, hts⟩, hK, hT⟩ := id C
  have hl : lv_has ls 6 [(0, .ref (E.ad 2)), (1, .int a1), (2, .ref (E.ad a2)), (3, .int a3)] := hl
  have X6_layAll_L6_c : ∀ (v1 : Int32) (v2 : Nat) (v3 : Int32) (res : Int32 × St) (n : Nat) (v4 : Int32) (v5 : Int32) (S : St) (H : Heap) (locs : List Loc) (ls : Array Slot), Ww E S s H locs → lv_has ls 6 [(0, .ref (E.ad 2)), (1, .int v1), (2, .ref (E.ad v2)), (3, .int v3), (4, .int v4), (5, .int v5)] → X6_layAll_L6 v1 v2 v3 n v4 v5 S = some res → (∀ (w4 : Int32) (T : St) (H : Heap) (locs : List Loc) (ls : Array Slot), some (w4, T) = some res → Ww E T s H locs → lv_has ls 6 [(4, .int w4)] → W p l e rm_X6_layAll s m args below meth c H locs 0 0 Q (F0 m 58 ls [])) → W p l e rm_X6_layAll s m args below meth c H locs 0 0 Q (F0 m 6 ls []) := by
    intro v1 v2 v3 res n
    induction n with
    | zero =>
      intro v4 v5 S H locs ls hW hl hf
      cases hf
    | succ n ih =>
      intro v4 v5 S H locs ls hW hl hf kE
      unfold X6_layAll_L6 at hf
      refine lv_iload hx hb dX6_layAll_6 (lv_at hl 5 rfl) ?_
      refine lv_aload_n hx hb dX6_layAll_8 rfl (lv_at hl 0 rfl) ?_
      refine g_get (ci := 6) (k := 0) (val := .int (rI S 2 0)) C g_us hW rfl rfl rfl (in_sid _ rfl) (by decide) f_RX6_28 rfl dX6_layAll_9 ?_
      refine lv_icmp_ge (tgt := 58) hx hb dX6_layAll_12 (by decide) (fun c1 => ?_) (fun c1 => ?_)
      · replace hf := ift_ hf c1
        exact kE _ _ _ _ _ hf hW (lv_sub hl [4] rfl)
      · replace hf := iff_ hf c1
        refine lv_aload_n hx hb dX6_layAll_15 rfl (lv_at hl 0 rfl) ?_
        refine lv_iload_n hx hb dX6_layAll_16 rfl (lv_at hl 1 rfl) ?_
        refine lv_iload hx hb dX6_layAll_17 (lv_at hl 5 rfl) ?_
        refine lv_aload_n hx hb dX6_layAll_19 rfl (lv_at hl 2 rfl) ?_
        replace hf := bd_so hf
        obtain ⟨_, h2, hf⟩ := hf
        refine g_get (ci := 7) (k := 2) (val := .ref (E.ad (v2 + 1))) C g_us hW rfl (if_so h2).1.1 (if_so h2).1.2.1 (if_so h2).1.2.2 (by decide) f_RX6_57 rfl dX6_layAll_20 ?_
        refine lv_iload_n hx hb dX6_layAll_23 rfl (lv_at hl 3 rfl) ?_
        refine lv_iload hx hb dX6_layAll_24 (lv_at hl 5 rfl) ?_
        refine lv_iadd hx hb dX6_layAll_26 ?_
        replace hf := bd_so hf
        obtain ⟨x3, h4, hf⟩ := hf
        refine g_iald C hW h4 dX6_layAll_27 ?_
        replace hf := bd_so hf
        obtain ⟨⟨x6, S7⟩, h5, hf⟩ := hf
        dsimp only at hf
        refine g_callVi (ci := 6) (As := [.int v1, .int v5, .int x3]) (rest := []) C g_us hW hl.1 (c_X6_lay l E S v1 v5 x3 _ _ h5) rfl rfl rfl (in_sid _ rfl) k_RX6_62 rfl ⟨rfl, rfl⟩ ⟨Nat.le_of_ble_eq_true rfl, Nat.le_of_ble_eq_true rfl⟩ ⟨Nat.zero_le _, Nat.zero_le _⟩ _ rfl (Nat.le_of_ble_eq_true rfl) dX6_layAll_28 (fun H locs hW => ?_)
        refine lv_pop hx hb dX6_layAll_31 rfl ?_
        refine lv_iload hx hb dX6_layAll_32 (lv_at hl 4 rfl) ?_
        refine lv_aload_n hx hb dX6_layAll_34 rfl (lv_at hl 0 rfl) ?_
        refine lv_iload_n hx hb dX6_layAll_35 rfl (lv_at hl 1 rfl) ?_
        refine lv_iload hx hb dX6_layAll_36 (lv_at hl 5 rfl) ?_
        replace hf := bd_so hf
        obtain ⟨x9, h8, hf⟩ := hf
        refine g_callVi (ci := 6) (As := [.int v1, .int v5]) (rest := [.int v4]) C g_us hW hl.1 (c_X6_between l E S7 v1 v5 _ h8) rfl rfl rfl (in_sid _ rfl) k_RX6_54 rfl ⟨rfl, rfl⟩ ⟨Nat.le_of_ble_eq_true rfl, Nat.le_of_ble_eq_true rfl⟩ ⟨Nat.zero_le _, Nat.zero_le _⟩ _ rfl (Nat.le_of_ble_eq_true rfl) dX6_layAll_38 (fun H locs hW => ?_)
        replace hf := bd_so hf
        obtain ⟨x11, h12, hf⟩ := hf
        have J13 : ∀ (H : Heap) (locs : List Loc) (ls : Array Slot), Ww E S7 s H locs → lv_has ls 6 [(0, .ref (E.ad 2)), (1, .int v1), (2, .ref (E.ad v2)), (3, .int v3), (5, .int v5)] → W p l e rm_X6_layAll s m args below meth c H locs 0 0 Q (F0 m 49 ls [.int x11, .int v4]) := by
          intro H locs ls hW hl
          refine lv_iadd hx hb dX6_layAll_49 ?_
          refine lv_istore (lv' := [(4, .int (v4 + x11)), (0, .ref (E.ad 2)), (1, .int v1), (2, .ref (E.ad v2)), (3, .int v3), (5, .int v5)]) hx hb dX6_layAll_50 hl (by decide) rfl (fun ls hl => ?_)
          refine lv_iinc (v := (v5 + 1)) (lv' := [(5, .int (v5 + 1)), (4, .int (v4 + x11)), (0, .ref (E.ad 2)), (1, .int v1), (2, .ref (E.ad v2)), (3, .int v3)]) hx hb dX6_layAll_52 hl (k := 5) rfl rfl (by decide) rfl (fun ls hl => ?_)
          refine lv_goto (tgt := 6) hx hb dX6_layAll_55 (by decide) ?_
          exact ih _ _ _ _ _ _ hW (lv_sub hl [2, 3, 4, 5, 1, 0] rfl) hf kE
        clear hf
        have hf := h12
        clear h12
        refine lv_if_le (tgt := 48) hx hb dX6_layAll_41 (by decide) (fun c10 => ?_) (fun c10 => ?_)
        · replace hf := ift_ hf c10
          refine lv_iconst (v := 0) hx hb dX6_layAll_48 (by decide) ?_
          obtain rfl := so1 hf
          exact J13 _ _ _ hW (lv_sub hl [0, 1, 2, 3, 5] rfl)
        · replace hf := iff_ hf c10
          refine lv_iconst (v := 1) hx hb dX6_layAll_44 (by decide) ?_
          refine lv_goto (tgt := 49) hx hb dX6_layAll_45 (by decide) ?_
          obtain rfl := so1 hf
          exact J13 _ _ _ hW (lv_sub hl [0, 1, 2, 3, 5] rfl)
  unfold X6_layAll at hf
  refine lv_iconst (v := 0) hx hb dX6_layAll_0 (by decide) ?_
  refine lv_istore (lv' := [(4, .int 0), (0, .ref (E.ad 2)), (1, .int a1), (2, .ref (E.ad a2)), (3, .int a3)]) hx hb dX6_layAll_1 hl (by decide) rfl (fun ls hl => ?_)
  refine lv_iconst (v := 0) hx hb dX6_layAll_3 (by decide) ?_
  refine lv_istore (lv' := [(5, .int 0), (4, .int 0), (0, .ref (E.ad 2)), (1, .int a1), (2, .ref (E.ad a2)), (3, .int a3)]) hx hb dX6_layAll_4 hl (by decide) rfl (fun ls hl => ?_)
  replace hf := bd_so hf
  obtain ⟨⟨x14, S15⟩, h16, hf⟩ := hf
  dsimp only at hf
  have J17 : ∀ (H : Heap) (locs : List Loc) (ls : Array Slot), Ww E S15 s H locs → lv_has ls 6 [(4, .int x14)] → W p l e rm_X6_layAll s m args below meth c H locs 0 0 Q (F0 m 58 ls []) := by
    intro H locs ls hW hl
    refine lv_iload hx hb dX6_layAll_58 (lv_at hl 0 rfl) ?_
    obtain ⟨rfl, rfl⟩ := so2 hf
    exact kR _ _ _ _ hW dX6_layAll_60
  exact X6_layAll_L6_c _ _ _ _ FU _ _ _ _ _ _ hW (lv_sub hl [2, 3, 4, 5, 1, 0] rfl) h16 (fun _ _ H locs ls e hW hl => by cases e; exact J17 H locs ls hW hl)

abbrev rm_X6_wiresInAll : Room := { frames := 1, cells := 0, slots := 0, locals := 60 }
set_option maxHeartbeats 4000000 in
set_option maxRecDepth 100000 in
theorem c_X6_wiresInAll (l : Launch) (E : En) (S : St) (r : Int32) (hf : X6_wiresInAll S  = some r) : Mi l E yX6_wiresInAll cX6_wiresInAll 6 (some .int) rm_X6_wiresInAll [.ref (E.ad 2)] S r S := by
  refine g_startI (cc := cX6_wiresInAll) (n := 6) (by decide) (Nat.le_of_ble_eq_true rfl) ?_
  intro p e s m args below meth c Q H locs C kR hW ls hl
  obtain ⟨⟨hx, hb, hml, hown, hts⟩, hK, hT⟩ := id C
  have hl : lv_has ls 6 [(0, .ref (E.ad 2))] := hl
  have X6_wiresInAll_L13_c : ∀ (S : St) (v3 : Int32) (res : Int32) (n : Nat) (v1 : Int32) (v4 : Int32) (H : Heap) (locs : List Loc) (ls : Array Slot), Ww E S s H locs → lv_has ls 6 [(1, .int v1), (2, .ref (E.ad 4)), (3, .int v3), (4, .int v4)] → X6_wiresInAll_L13 S v3 n v1 v4 = some res → (∀ (w1 : Int32) (H : Heap) (locs : List Loc) (ls : Array Slot), some w1 = some res → Ww E S s H locs → lv_has ls 6 [(1, .int w1)] → W p l e rm_X6_wiresInAll s m args below meth c H locs 0 0 Q (F0 m 44 ls [])) → W p l e rm_X6_wiresInAll s m args below meth c H locs 0 0 Q (F0 m 13 ls []) := by
    intro S v3 res n
    induction n with
    | zero =>
      intro v1 v4 H locs ls hW hl hf
      cases hf
    | succ n ih =>
      intro v1 v4 H locs ls hW hl hf kE
      unfold X6_wiresInAll_L13 at hf
      refine lv_iload hx hb dX6_wiresInAll_13 (lv_at hl 3 rfl) ?_
      refine lv_iload_n hx hb dX6_wiresInAll_15 rfl (lv_at hl 2 rfl) ?_
      refine lv_icmp_ge (tgt := 44) hx hb dX6_wiresInAll_16 (by decide) (fun c3 => ?_) (fun c3 => ?_)
      · replace hf := ift_ hf c3
        exact kE _ _ _ _ hf hW (lv_sub hl [0] rfl)
      · replace hf := iff_ hf c3
        refine lv_aload_n hx hb dX6_wiresInAll_19 rfl (lv_at hl 1 rfl) ?_
        refine lv_iload hx hb dX6_wiresInAll_20 (lv_at hl 3 rfl) ?_
        replace hf := bd_so hf
        obtain ⟨x4, h5, hf⟩ := hf
        refine g_iald C hW h5 dX6_wiresInAll_22 ?_
        refine lv_istore (lv' := [(5, .int x4), (1, .int v1), (2, .ref (E.ad 4)), (3, .int v3), (4, .int v4)]) hx hb dX6_wiresInAll_23 hl (by decide) rfl (fun ls hl => ?_)
        refine lv_iload_n hx hb dX6_wiresInAll_25 rfl (lv_at hl 1 rfl) ?_
        refine lv_iload hx hb dX6_wiresInAll_26 (lv_at hl 0 rfl) ?_
        replace hf := bd_so hf
        obtain ⟨x7, h8, hf⟩ := hf
        have J9 : ∀ (H : Heap) (locs : List Loc) (ls : Array Slot), Ww E S s H locs → lv_has ls 6 [(2, .ref (E.ad 4)), (3, .int v3), (4, .int v4)] → W p l e rm_X6_wiresInAll s m args below meth c H locs 0 0 Q (F0 m 36 ls [.int x7, .int v1]) := by
          intro H locs ls hW hl
          refine lv_iadd hx hb dX6_wiresInAll_36 ?_
          refine lv_istore_n (lv' := [(1, .int (v1 + x7)), (2, .ref (E.ad 4)), (3, .int v3), (4, .int v4)]) hx hb dX6_wiresInAll_37 rfl hl (by decide) rfl (fun ls hl => ?_)
          refine lv_iinc (v := (v4 + 1)) (lv' := [(4, .int (v4 + 1)), (1, .int (v1 + x7)), (2, .ref (E.ad 4)), (3, .int v3)]) hx hb dX6_wiresInAll_38 hl (k := 3) rfl rfl (by decide) rfl (fun ls hl => ?_)
          refine lv_goto (tgt := 13) hx hb dX6_wiresInAll_41 (by decide) ?_
          exact ih _ _ _ _ _ hW (lv_sub hl [1, 2, 3, 0] rfl) hf kE
        clear hf
        have hf := h8
        clear h8
        refine lv_if_le (tgt := 35) hx hb dX6_wiresInAll_28 (by decide) (fun c6 => ?_) (fun c6 => ?_)
        · replace hf := ift_ hf c6
          refine lv_iconst (v := 0) hx hb dX6_wiresInAll_35 (by decide) ?_
          obtain rfl := so1 hf
          exact J9 _ _ _ hW (lv_sub hl [2, 3, 4] rfl)
        · replace hf := iff_ hf c6
          refine lv_iconst (v := 1) hx hb dX6_wiresInAll_31 (by decide) ?_
          refine lv_goto (tgt := 36) hx hb dX6_wiresInAll_32 (by decide) ?_
          obtain rfl := so1 hf
          exact J9 _ _ _ hW (lv_sub hl [2, 3, 4] rfl)
  unfold X6_wiresInAll at hf
  refine lv_iconst (v := 0) hx hb dX6_wiresInAll_0 (by decide) ?_
  refine lv_istore_n (lv' := [(1, .int 0), (0, .ref (E.ad 2))]) hx hb dX6_wiresInAll_1 rfl hl (by decide) rfl (fun ls hl => ?_)
  refine lv_aload_n hx hb dX6_wiresInAll_2 rfl (lv_at hl 1 rfl) ?_
  refine g_get (ci := 6) (k := 4) (val := .ref (E.ad 4)) C g_us hW rfl rfl rfl (in_sid _ rfl) (by decide) f_RX6_22 rfl dX6_wiresInAll_3 ?_
  refine lv_astore_n (lv' := [(2, .ref (E.ad 4)), (1, .int 0), (0, .ref (E.ad 2))]) hx hb dX6_wiresInAll_6 rfl hl (by decide) rfl (fun ls hl => ?_)
  refine lv_aload_n hx hb dX6_wiresInAll_7 rfl (lv_at hl 0 rfl) ?_
  replace hf := bd_so hf
  obtain ⟨x1, h2, hf⟩ := hf
  refine g_alen C hW h2 dX6_wiresInAll_8 ?_
  refine lv_istore_n (lv' := [(3, .int x1), (2, .ref (E.ad 4)), (1, .int 0), (0, .ref (E.ad 2))]) hx hb dX6_wiresInAll_9 rfl hl (by decide) rfl (fun ls hl => ?_)
  refine lv_iconst (v := 0) hx hb dX6_wiresInAll_10 (by decide) ?_
  refine lv_istore (lv' := [(4, .int 0), (3, .int x1), (2, .ref (E.ad 4)), (1, .int 0), (0, .ref (E.ad 2))]) hx hb dX6_wiresInAll_11 hl (by decide) rfl (fun ls hl => ?_)
  replace hf := bd_so hf
  obtain ⟨x10, h11, hf⟩ := hf
  have J12 : ∀ (H : Heap) (locs : List Loc) (ls : Array Slot), Ww E S s H locs → lv_has ls 6 [(1, .int x10)] → W p l e rm_X6_wiresInAll s m args below meth c H locs 0 0 Q (F0 m 44 ls []) := by
    intro H locs ls hW hl
    refine lv_iload_n hx hb dX6_wiresInAll_44 rfl (lv_at hl 0 rfl) ?_
    obtain rfl := so1 hf
    exact kR _ _ _ _ hW dX6_wiresInAll_45
  exact X6_wiresInAll_L13_c _ _ _ FU _ _ _ _ _ hW (lv_sub hl [3, 2, 1, 0] rfl) h11 (fun _ H locs ls e hW hl => by cases e; exact J12 H locs ls hW hl)

abbrev rm_X6_longestWire : Room := { frames := 2, cells := 0, slots := 0, locals := 82 }
set_option maxHeartbeats 4000000 in
set_option maxRecDepth 100000 in
theorem c_X6_longestWire (l : Launch) (E : En) (S : St) (a1 : Int32) (a2 : Int32) (r : Int32) (hf : X6_longestWire S a1 a2 = some r) : Mi l E yX6_longestWire cX6_longestWire 5 (some .int) rm_X6_longestWire [.ref (E.ad 2), .int a1, .int a2] S r S := by
  refine g_startI (cc := cX6_longestWire) (n := 5) (by decide) (Nat.le_of_ble_eq_true rfl) ?_
  intro p e s m args below meth c Q H locs C kR hW ls hl
  obtain ⟨⟨hx, hb, hml, hown, hts⟩, hK, hT⟩ := id C
  have hl : lv_has ls 5 [(0, .ref (E.ad 2)), (1, .int a1), (2, .int a2)] := hl
  have X6_longestWire_L5_c : ∀ (S : St) (v1 : Int32) (v2 : Int32) (res : Int32) (n : Nat) (v3 : Int32) (v4 : Int32) (H : Heap) (locs : List Loc) (ls : Array Slot), Ww E S s H locs → lv_has ls 5 [(0, .ref (E.ad 2)), (1, .int v1), (2, .int v2), (3, .int v3), (4, .int v4)] → X6_longestWire_L5 S v1 v2 n v3 v4 = some res → (∀ (w3 : Int32) (H : Heap) (locs : List Loc) (ls : Array Slot), some w3 = some res → Ww E S s H locs → lv_has ls 5 [(3, .int w3)] → W p l e rm_X6_longestWire s m args below meth c H locs 0 0 Q (F0 m 41 ls [])) → W p l e rm_X6_longestWire s m args below meth c H locs 0 0 Q (F0 m 5 ls []) := by
    intro S v1 v2 res n
    induction n with
    | zero =>
      intro v3 v4 H locs ls hW hl hf
      cases hf
    | succ n ih =>
      intro v3 v4 H locs ls hW hl hf kE
      unfold X6_longestWire_L5 at hf
      refine lv_iload hx hb dX6_longestWire_5 (lv_at hl 4 rfl) ?_
      refine lv_aload_n hx hb dX6_longestWire_7 rfl (lv_at hl 0 rfl) ?_
      refine g_get (ci := 6) (k := 0) (val := .int (rI S 2 0)) C g_us hW rfl rfl rfl (in_sid _ rfl) (by decide) f_RX6_28 rfl dX6_longestWire_8 ?_
      refine lv_icmp_ge (tgt := 41) hx hb dX6_longestWire_11 (by decide) (fun c1 => ?_) (fun c1 => ?_)
      · replace hf := ift_ hf c1
        exact kE _ _ _ _ hf hW (lv_sub hl [3] rfl)
      · replace hf := iff_ hf c1
        refine lv_iload_n hx hb dX6_longestWire_14 rfl (lv_at hl 2 rfl) ?_
        refine lv_iload hx hb dX6_longestWire_15 (lv_at hl 4 rfl) ?_
        refine lv_ishr hx hb dX6_longestWire_17 ?_
        refine lv_iconst (v := 1) hx hb dX6_longestWire_18 (by decide) ?_
        refine lv_iand hx hb dX6_longestWire_19 ?_
        replace hf := bd_so hf
        obtain ⟨x3, h4, hf⟩ := hf
        have J5 : ∀ (H : Heap) (locs : List Loc) (ls : Array Slot), Ww E S s H locs → lv_has ls 5 [(0, .ref (E.ad 2)), (1, .int v1), (2, .int v2), (3, .int x3), (4, .int v4)] → W p l e rm_X6_longestWire s m args below meth c H locs 0 0 Q (F0 m 35 ls []) := by
          intro H locs ls hW hl
          refine lv_iinc (v := (v4 + 1)) (lv' := [(4, .int (v4 + 1)), (0, .ref (E.ad 2)), (1, .int v1), (2, .int v2), (3, .int x3)]) hx hb dX6_longestWire_35 hl (k := 4) rfl rfl (by decide) rfl (fun ls hl => ?_)
          refine lv_goto (tgt := 5) hx hb dX6_longestWire_38 (by decide) ?_
          exact ih _ _ _ _ _ hW (lv_sub hl [1, 2, 3, 4, 0] rfl) hf kE
        clear hf
        have hf := h4
        clear h4
        refine lv_if_eq (tgt := 35) hx hb dX6_longestWire_20 (by decide) (fun c2 => ?_) (fun c2 => ?_)
        · replace hf := ift_ hf c2
          obtain rfl := so1 hf
          exact J5 _ _ _ hW (lv_sub hl [0, 1, 2, 3, 4] rfl)
        · replace hf := iff_ hf c2
          refine lv_iload_n hx hb dX6_longestWire_23 rfl (lv_at hl 3 rfl) ?_
          refine lv_aload_n hx hb dX6_longestWire_24 rfl (lv_at hl 0 rfl) ?_
          refine lv_iload hx hb dX6_longestWire_25 (lv_at hl 4 rfl) ?_
          refine lv_iload_n hx hb dX6_longestWire_27 rfl (lv_at hl 1 rfl) ?_
          replace hf := bd_so hf
          obtain ⟨x7, h6, hf⟩ := hf
          refine g_callVi (ci := 6) (As := [.int v4, .int v1]) (rest := [.int v3]) C g_us hW hl.1 (c_X6_between l E S v4 v1 _ h6) rfl rfl rfl (in_sid _ rfl) k_RX6_54 rfl ⟨rfl, rfl⟩ ⟨Nat.le_of_ble_eq_true rfl, Nat.le_of_ble_eq_true rfl⟩ ⟨Nat.zero_le _, Nat.zero_le _⟩ _ rfl (Nat.le_of_ble_eq_true rfl) dX6_longestWire_28 (fun H locs hW => ?_)
          refine g_max C g_us hl.1 k_RX6_66 (Nat.le_of_ble_eq_true rfl) (Nat.le_of_ble_eq_true rfl) ⟨Nat.zero_le _, Nat.zero_le _⟩ dX6_longestWire_31 ?_
          refine lv_istore_n (lv' := [(3, .int (if v3 < x7 then x7 else v3)), (0, .ref (E.ad 2)), (1, .int v1), (2, .int v2), (4, .int v4)]) hx hb dX6_longestWire_34 rfl hl (by decide) rfl (fun ls hl => ?_)
          obtain rfl := so1 hf
          exact J5 _ _ _ hW (lv_sub hl [1, 2, 3, 0, 4] rfl)
  unfold X6_longestWire at hf
  refine lv_iconst (v := 0) hx hb dX6_longestWire_0 (by decide) ?_
  refine lv_istore_n (lv' := [(3, .int 0), (0, .ref (E.ad 2)), (1, .int a1), (2, .int a2)]) hx hb dX6_longestWire_1 rfl hl (by decide) rfl (fun ls hl => ?_)
  refine lv_iconst (v := 0) hx hb dX6_longestWire_2 (by decide) ?_
  refine lv_istore (lv' := [(4, .int 0), (3, .int 0), (0, .ref (E.ad 2)), (1, .int a1), (2, .int a2)]) hx hb dX6_longestWire_3 hl (by decide) rfl (fun ls hl => ?_)
  replace hf := bd_so hf
  obtain ⟨x8, h9, hf⟩ := hf
  have J10 : ∀ (H : Heap) (locs : List Loc) (ls : Array Slot), Ww E S s H locs → lv_has ls 5 [(3, .int x8)] → W p l e rm_X6_longestWire s m args below meth c H locs 0 0 Q (F0 m 41 ls []) := by
    intro H locs ls hW hl
    refine lv_iload_n hx hb dX6_longestWire_41 rfl (lv_at hl 0 rfl) ?_
    obtain rfl := so1 hf
    exact kR _ _ _ _ hW dX6_longestWire_42
  exact X6_longestWire_L5_c _ _ _ _ FU _ _ _ _ _ hW (lv_sub hl [2, 3, 4, 1, 0] rfl) h9 (fun _ H locs ls e hW hl => by cases e; exact J10 H locs ls hW hl)

abbrev rm_X6_costOfHolding : Room := { frames := 2, cells := 0, slots := 0, locals := 82 }
set_option maxHeartbeats 4000000 in
set_option maxRecDepth 100000 in
theorem c_X6_costOfHolding (l : Launch) (E : En) (S : St) (a1 : Int32) (a2 : Int32) (a3 : Int32) (r : Int32) (hf : X6_costOfHolding S a1 a2 a3 = some r) : Mi l E yX6_costOfHolding cX6_costOfHolding 6 (some .int) rm_X6_costOfHolding [.ref (E.ad 2), .int a1, .int a2, .int a3] S r S := by
  refine g_startI (cc := cX6_costOfHolding) (n := 6) (by decide) (Nat.le_of_ble_eq_true rfl) ?_
  intro p e s m args below meth c Q H locs C kR hW ls hl
  obtain ⟨⟨hx, hb, hml, hown, hts⟩, hK, hT⟩ := id C
  have hl : lv_has ls 6 [(0, .ref (E.ad 2)), (1, .int a1), (2, .int a2), (3, .int a3)] := hl
  have X6_costOfHolding_L6_c : ∀ (S : St) (v1 : Int32) (v2 : Int32) (v3 : Int32) (res : Int32) (n : Nat) (v4 : Int32) (v5 : Int32) (H : Heap) (locs : List Loc) (ls : Array Slot), Ww E S s H locs → lv_has ls 6 [(0, .ref (E.ad 2)), (1, .int v1), (2, .int v2), (3, .int v3), (4, .int v4), (5, .int v5)] → X6_costOfHolding_L6 S v1 v2 v3 n v4 v5 = some res → (∀ (w4 : Int32) (H : Heap) (locs : List Loc) (ls : Array Slot), some w4 = some res → Ww E S s H locs → lv_has ls 6 [(4, .int w4)] → W p l e rm_X6_costOfHolding s m args below meth c H locs 0 0 Q (F0 m 44 ls [])) → W p l e rm_X6_costOfHolding s m args below meth c H locs 0 0 Q (F0 m 6 ls []) := by
    intro S v1 v2 v3 res n
    induction n with
    | zero =>
      intro v4 v5 H locs ls hW hl hf
      cases hf
    | succ n ih =>
      intro v4 v5 H locs ls hW hl hf kE
      unfold X6_costOfHolding_L6 at hf
      refine lv_iload hx hb dX6_costOfHolding_6 (lv_at hl 5 rfl) ?_
      refine lv_aload_n hx hb dX6_costOfHolding_8 rfl (lv_at hl 0 rfl) ?_
      refine g_get (ci := 6) (k := 0) (val := .int (rI S 2 0)) C g_us hW rfl rfl rfl (in_sid _ rfl) (by decide) f_RX6_28 rfl dX6_costOfHolding_9 ?_
      refine lv_icmp_ge (tgt := 44) hx hb dX6_costOfHolding_12 (by decide) (fun c1 => ?_) (fun c1 => ?_)
      · replace hf := ift_ hf c1
        exact kE _ _ _ _ hf hW (lv_sub hl [4] rfl)
      · replace hf := iff_ hf c1
        refine lv_iload_n hx hb dX6_costOfHolding_15 rfl (lv_at hl 2 rfl) ?_
        refine lv_iload hx hb dX6_costOfHolding_16 (lv_at hl 5 rfl) ?_
        refine lv_ishr hx hb dX6_costOfHolding_18 ?_
        refine lv_iconst (v := 1) hx hb dX6_costOfHolding_19 (by decide) ?_
        refine lv_iand hx hb dX6_costOfHolding_20 ?_
        replace hf := bd_so hf
        obtain ⟨x3, h4, hf⟩ := hf
        have J5 : ∀ (H : Heap) (locs : List Loc) (ls : Array Slot), Ww E S s H locs → lv_has ls 6 [(0, .ref (E.ad 2)), (1, .int v1), (2, .int v2), (3, .int v3), (4, .int x3), (5, .int v5)] → W p l e rm_X6_costOfHolding s m args below meth c H locs 0 0 Q (F0 m 38 ls []) := by
          intro H locs ls hW hl
          refine lv_iinc (v := (v5 + 1)) (lv' := [(5, .int (v5 + 1)), (0, .ref (E.ad 2)), (1, .int v1), (2, .int v2), (3, .int v3), (4, .int x3)]) hx hb dX6_costOfHolding_38 hl (k := 5) rfl rfl (by decide) rfl (fun ls hl => ?_)
          refine lv_goto (tgt := 6) hx hb dX6_costOfHolding_41 (by decide) ?_
          exact ih _ _ _ _ _ hW (lv_sub hl [1, 2, 3, 4, 5, 0] rfl) hf kE
        clear hf
        have hf := h4
        clear h4
        refine lv_if_eq (tgt := 38) hx hb dX6_costOfHolding_21 (by decide) (fun c2 => ?_) (fun c2 => ?_)
        · replace hf := ift_ hf c2
          obtain rfl := so1 hf
          exact J5 _ _ _ hW (lv_sub hl [0, 1, 2, 3, 4, 5] rfl)
        · replace hf := iff_ hf c2
          refine lv_iload hx hb dX6_costOfHolding_24 (lv_at hl 4 rfl) ?_
          refine lv_iload_n hx hb dX6_costOfHolding_26 rfl (lv_at hl 3 rfl) ?_
          refine lv_aload_n hx hb dX6_costOfHolding_27 rfl (lv_at hl 0 rfl) ?_
          refine lv_iload hx hb dX6_costOfHolding_28 (lv_at hl 5 rfl) ?_
          refine lv_iload_n hx hb dX6_costOfHolding_30 rfl (lv_at hl 1 rfl) ?_
          replace hf := bd_so hf
          obtain ⟨x7, h6, hf⟩ := hf
          refine g_callVi (ci := 6) (As := [.int v5, .int v1]) (rest := [.int v3, .int v4]) C g_us hW hl.1 (c_X6_between l E S v5 v1 _ h6) rfl rfl rfl (in_sid _ rfl) k_RX6_54 rfl ⟨rfl, rfl⟩ ⟨Nat.le_of_ble_eq_true rfl, Nat.le_of_ble_eq_true rfl⟩ ⟨Nat.zero_le _, Nat.zero_le _⟩ _ rfl (Nat.le_of_ble_eq_true rfl) dX6_costOfHolding_31 (fun H locs hW => ?_)
          refine lv_isub hx hb dX6_costOfHolding_34 ?_
          refine lv_iadd hx hb dX6_costOfHolding_35 ?_
          refine lv_istore (lv' := [(4, .int (v4 + (v3 - x7))), (0, .ref (E.ad 2)), (1, .int v1), (2, .int v2), (3, .int v3), (5, .int v5)]) hx hb dX6_costOfHolding_36 hl (by decide) rfl (fun ls hl => ?_)
          obtain rfl := so1 hf
          exact J5 _ _ _ hW (lv_sub hl [1, 2, 3, 4, 0, 5] rfl)
  unfold X6_costOfHolding at hf
  refine lv_iconst (v := 0) hx hb dX6_costOfHolding_0 (by decide) ?_
  refine lv_istore (lv' := [(4, .int 0), (0, .ref (E.ad 2)), (1, .int a1), (2, .int a2), (3, .int a3)]) hx hb dX6_costOfHolding_1 hl (by decide) rfl (fun ls hl => ?_)
  refine lv_iconst (v := 0) hx hb dX6_costOfHolding_3 (by decide) ?_
  refine lv_istore (lv' := [(5, .int 0), (4, .int 0), (0, .ref (E.ad 2)), (1, .int a1), (2, .int a2), (3, .int a3)]) hx hb dX6_costOfHolding_4 hl (by decide) rfl (fun ls hl => ?_)
  replace hf := bd_so hf
  obtain ⟨x8, h9, hf⟩ := hf
  have J10 : ∀ (H : Heap) (locs : List Loc) (ls : Array Slot), Ww E S s H locs → lv_has ls 6 [(4, .int x8)] → W p l e rm_X6_costOfHolding s m args below meth c H locs 0 0 Q (F0 m 44 ls []) := by
    intro H locs ls hW hl
    refine lv_iload hx hb dX6_costOfHolding_44 (lv_at hl 0 rfl) ?_
    obtain rfl := so1 hf
    exact kR _ _ _ _ hW dX6_costOfHolding_46
  exact X6_costOfHolding_L6_c _ _ _ _ _ FU _ _ _ _ _ hW (lv_sub hl [2, 3, 4, 5, 1, 0] rfl) h9 (fun _ H locs ls e hW hl => by cases e; exact J10 H locs ls hW hl)

abbrev rm_X6_leastBeat : Room := { frames := 2, cells := 0, slots := 0, locals := 82 }
set_option maxHeartbeats 4000000 in
set_option maxRecDepth 100000 in
theorem c_X6_leastBeat (l : Launch) (E : En) (S : St) (a1 : Int32) (r : Int32) (hf : X6_leastBeat S a1 = some r) : Mi l E yX6_leastBeat cX6_leastBeat 4 (some .int) rm_X6_leastBeat [.ref (E.ad 2), .int a1] S r S := by
  refine g_startI (cc := cX6_leastBeat) (n := 4) (by decide) (Nat.le_of_ble_eq_true rfl) ?_
  intro p e s m args below meth c Q H locs C kR hW ls hl
  obtain ⟨⟨hx, hb, hml, hown, hts⟩, hK, hT⟩ := id C
  have hl : lv_has ls 4 [(0, .ref (E.ad 2)), (1, .int a1)] := hl
  have X6_leastBeat_L8_c : ∀ (S : St) (v1 : Int32) (res : Int32) (n : Nat) (v2 : Int32) (v3 : Int32) (H : Heap) (locs : List Loc) (ls : Array Slot), Ww E S s H locs → lv_has ls 4 [(0, .ref (E.ad 2)), (1, .int v1), (2, .int v2), (3, .int v3)] → X6_leastBeat_L8 S v1 n v2 v3 = some res → (∀ (w2 : Int32) (H : Heap) (locs : List Loc) (ls : Array Slot), some w2 = some res → Ww E S s H locs → lv_has ls 4 [(2, .int w2)] → W p l e rm_X6_leastBeat s m args below meth c H locs 0 0 Q (F0 m 41 ls [])) → W p l e rm_X6_leastBeat s m args below meth c H locs 0 0 Q (F0 m 8 ls []) := by
    intro S v1 res n
    induction n with
    | zero =>
      intro v2 v3 H locs ls hW hl hf
      cases hf
    | succ n ih =>
      intro v2 v3 H locs ls hW hl hf kE
      unfold X6_leastBeat_L8 at hf
      refine lv_iload_n hx hb dX6_leastBeat_8 rfl (lv_at hl 3 rfl) ?_
      refine lv_aload_n hx hb dX6_leastBeat_9 rfl (lv_at hl 0 rfl) ?_
      refine g_get (ci := 6) (k := 0) (val := .int (rI S 2 0)) C g_us hW rfl rfl rfl (in_sid _ rfl) (by decide) f_RX6_28 rfl dX6_leastBeat_10 ?_
      refine lv_icmp_ge (tgt := 41) hx hb dX6_leastBeat_13 (by decide) (fun c3 => ?_) (fun c3 => ?_)
      · replace hf := ift_ hf c3
        exact kE _ _ _ _ hf hW (lv_sub hl [2] rfl)
      · replace hf := iff_ hf c3
        refine lv_iload_n hx hb dX6_leastBeat_16 rfl (lv_at hl 1 rfl) ?_
        refine lv_iload_n hx hb dX6_leastBeat_17 rfl (lv_at hl 3 rfl) ?_
        refine lv_ishr hx hb dX6_leastBeat_18 ?_
        refine lv_iconst (v := 1) hx hb dX6_leastBeat_19 (by decide) ?_
        refine lv_iand hx hb dX6_leastBeat_20 ?_
        replace hf := bd_so hf
        obtain ⟨x5, h6, hf⟩ := hf
        have J7 : ∀ (H : Heap) (locs : List Loc) (ls : Array Slot), Ww E S s H locs → lv_has ls 4 [(0, .ref (E.ad 2)), (1, .int v1), (2, .int x5), (3, .int v3)] → W p l e rm_X6_leastBeat s m args below meth c H locs 0 0 Q (F0 m 35 ls []) := by
          intro H locs ls hW hl
          refine lv_iinc (v := (v3 + 1)) (lv' := [(3, .int (v3 + 1)), (0, .ref (E.ad 2)), (1, .int v1), (2, .int x5)]) hx hb dX6_leastBeat_35 hl (k := 3) rfl rfl (by decide) rfl (fun ls hl => ?_)
          refine lv_goto (tgt := 8) hx hb dX6_leastBeat_38 (by decide) ?_
          exact ih _ _ _ _ _ hW (lv_sub hl [1, 2, 3, 0] rfl) hf kE
        clear hf
        have hf := h6
        clear h6
        refine lv_if_eq (tgt := 35) hx hb dX6_leastBeat_21 (by decide) (fun c4 => ?_) (fun c4 => ?_)
        · replace hf := ift_ hf c4
          obtain rfl := so1 hf
          exact J7 _ _ _ hW (lv_sub hl [0, 1, 2, 3] rfl)
        · replace hf := iff_ hf c4
          refine lv_iload_n hx hb dX6_leastBeat_24 rfl (lv_at hl 2 rfl) ?_
          refine lv_aload_n hx hb dX6_leastBeat_25 rfl (lv_at hl 0 rfl) ?_
          refine lv_iload_n hx hb dX6_leastBeat_26 rfl (lv_at hl 3 rfl) ?_
          refine lv_iconst (v := 5) hx hb dX6_leastBeat_27 (by decide) ?_
          replace hf := bd_so hf
          obtain ⟨x9, h8, hf⟩ := hf
          refine g_callVi (ci := 6) (As := [.int v3, .int 5]) (rest := [.int v2]) C g_us hW hl.1 (c_X6_value l E S v3 5 _ h8) rfl rfl rfl (in_sid _ rfl) k_RX6_44 rfl ⟨rfl, rfl⟩ ⟨Nat.le_of_ble_eq_true rfl, Nat.le_of_ble_eq_true rfl⟩ ⟨Nat.zero_le _, Nat.zero_le _⟩ _ rfl (Nat.le_of_ble_eq_true rfl) dX6_leastBeat_28 (fun H locs hW => ?_)
          refine g_min C g_us hl.1 k_RX6_71 (Nat.le_of_ble_eq_true rfl) (Nat.le_of_ble_eq_true rfl) ⟨Nat.zero_le _, Nat.zero_le _⟩ dX6_leastBeat_31 ?_
          refine lv_istore_n (lv' := [(2, .int (if x9 < v2 then x9 else v2)), (0, .ref (E.ad 2)), (1, .int v1), (3, .int v3)]) hx hb dX6_leastBeat_34 rfl hl (by decide) rfl (fun ls hl => ?_)
          obtain rfl := so1 hf
          exact J7 _ _ _ hW (lv_sub hl [1, 2, 0, 3] rfl)
  unfold X6_leastBeat at hf
  refine g_getsN2 C hW f_RX6_74 dX6_leastBeat_0 ?_
  refine lv_iconst (v := 5) hx hb dX6_leastBeat_3 (by decide) ?_
  replace hf := bd_so hf
  obtain ⟨x1, h2, hf⟩ := hf
  refine g_tld2 C hW h2 dX6_leastBeat_4 ?_
  refine lv_istore_n (lv' := [(2, .int x1), (0, .ref (E.ad 2)), (1, .int a1)]) hx hb dX6_leastBeat_5 rfl hl (by decide) rfl (fun ls hl => ?_)
  refine lv_iconst (v := 0) hx hb dX6_leastBeat_6 (by decide) ?_
  refine lv_istore_n (lv' := [(3, .int 0), (2, .int x1), (0, .ref (E.ad 2)), (1, .int a1)]) hx hb dX6_leastBeat_7 rfl hl (by decide) rfl (fun ls hl => ?_)
  replace hf := bd_so hf
  obtain ⟨x10, h11, hf⟩ := hf
  have J12 : ∀ (H : Heap) (locs : List Loc) (ls : Array Slot), Ww E S s H locs → lv_has ls 4 [(2, .int x10)] → W p l e rm_X6_leastBeat s m args below meth c H locs 0 0 Q (F0 m 41 ls []) := by
    intro H locs ls hW hl
    refine lv_iload_n hx hb dX6_leastBeat_41 rfl (lv_at hl 0 rfl) ?_
    obtain rfl := so1 hf
    exact kR _ _ _ _ hW dX6_leastBeat_42
  exact X6_leastBeat_L8_c _ _ _ FU _ _ _ _ _ hW (lv_sub hl [2, 3, 1, 0] rfl) h11 (fun _ H locs ls e hW hl => by cases e; exact J12 H locs ls hW hl)

abbrev rm_X6_losesWord : Room := { frames := 1, cells := 0, slots := 0, locals := 60 }
set_option maxHeartbeats 4000000 in
set_option maxRecDepth 100000 in
theorem c_X6_losesWord (l : Launch) (E : En) (S : St) (a1 : Int32) (a2 : Int32) (a3 : Int32) (r : Int32) (hf : X6_losesWord S a1 a2 a3 = some r) : Mi l E yX6_losesWord cX6_losesWord 4 (some .boolean) rm_X6_losesWord [.ref (E.ad 2), .int a1, .int a2, .int a3] S r S := by
  refine g_startZ (cc := cX6_losesWord) (n := 4) (by decide) (Nat.le_of_ble_eq_true rfl) ?_
  intro p e s m args below meth c Q H locs C kR hW ls hl
  obtain ⟨⟨hx, hb, hml, hown, hts⟩, hK, hT⟩ := id C
  have hl : lv_has ls 4 [(0, .ref (E.ad 2)), (1, .int a1), (2, .int a2), (3, .int a3)] := hl
  unfold X6_losesWord at hf
  refine lv_aload_n hx hb dX6_losesWord_0 rfl (lv_at hl 0 rfl) ?_
  refine g_get (ci := 6) (k := 5) (val := .ref (E.ad 5)) C g_us hW rfl rfl rfl (in_sid _ rfl) (by decide) f_RX6_25 rfl dX6_losesWord_1 ?_
  refine lv_iload_n hx hb dX6_losesWord_4 rfl (lv_at hl 1 rfl) ?_
  refine lv_iconst (v := 1) hx hb dX6_losesWord_5 (by decide) ?_
  refine lv_isub hx hb dX6_losesWord_6 ?_
  refine lv_bipush (v := 8) hx hb dX6_losesWord_7 (by decide) ?_
  refine lv_imul hx hb dX6_losesWord_9 ?_
  refine lv_iload_n hx hb dX6_losesWord_10 rfl (lv_at hl 2 rfl) ?_
  refine lv_iadd hx hb dX6_losesWord_11 ?_
  replace hf := bd_so hf
  obtain ⟨x1, h2, hf⟩ := hf
  refine g_iald C hW h2 dX6_losesWord_12 ?_
  refine lv_iload_n hx hb dX6_losesWord_13 rfl (lv_at hl 3 rfl) ?_
  refine lv_ishr hx hb dX6_losesWord_14 ?_
  refine lv_iconst (v := 1) hx hb dX6_losesWord_15 (by decide) ?_
  refine lv_iand hx hb dX6_losesWord_16 ?_
  refine lv_if_eq (tgt := 24) hx hb dX6_losesWord_17 (by decide) (fun c3 => ?_) (fun c3 => ?_)
  · replace hf := ift_ hf c3
    refine lv_iconst (v := 0) hx hb dX6_losesWord_24 (by decide) ?_
    obtain rfl := so1 hf
    exact kR _ _ _ _ hW (Or.inl rfl) dX6_losesWord_25
  · replace hf := iff_ hf c3
    refine lv_iconst (v := 1) hx hb dX6_losesWord_20 (by decide) ?_
    refine lv_goto (tgt := 25) hx hb dX6_losesWord_21 (by decide) ?_
    obtain rfl := so1 hf
    exact kR _ _ _ _ hW (Or.inr rfl) dX6_losesWord_25

abbrev rm_X6_loseWord : Room := { frames := 2, cells := 0, slots := 0, locals := 83 }
set_option maxHeartbeats 4000000 in
set_option maxRecDepth 100000 in
theorem c_X6_loseWord (l : Launch) (E : En) (S : St) (a1 : Int32) (a2 : Int32) (a3 : Int32) (a4 : Int32) (r : Int32) (S1 : St) (hf : X6_loseWord S a1 a2 a3 a4 = some (r, S1)) : Mi l E yX6_loseWord cX6_loseWord 7 (some .int) rm_X6_loseWord [.ref (E.ad 2), .int a1, .int a2, .int a3, .int a4] S r S1 := by
  refine g_startI (cc := cX6_loseWord) (n := 7) (by decide) (Nat.le_of_ble_eq_true rfl) ?_
  intro p e s m args below meth c Q H locs C kR hW ls hl
  obtain ⟨⟨hx, hb, hml, hown, hts⟩, hK, hT⟩ := id C
  have hl : lv_has ls 7 [(0, .ref (E.ad 2)), (1, .int a1), (2, .int a2), (3, .int a3), (4, .int a4)] := hl
  unfold X6_loseWord at hf
  refine lv_aload_n hx hb dX6_loseWord_0 rfl (lv_at hl 0 rfl) ?_
  refine lv_iload_n hx hb dX6_loseWord_1 rfl (lv_at hl 1 rfl) ?_
  refine lv_iload_n hx hb dX6_loseWord_2 rfl (lv_at hl 2 rfl) ?_
  refine lv_iload_n hx hb dX6_loseWord_3 rfl (lv_at hl 3 rfl) ?_
  replace hf := bd_so hf
  obtain ⟨x2, h1, hf⟩ := hf
  refine g_callVi (ci := 6) (As := [.int a1, .int a2, .int a3]) (rest := []) C g_us hW hl.1 (c_X6_losesWord l E S a1 a2 a3 _ h1) rfl rfl rfl (in_sid _ rfl) k_RX6_77 rfl ⟨rfl, rfl⟩ ⟨Nat.le_of_ble_eq_true rfl, Nat.le_of_ble_eq_true rfl⟩ ⟨Nat.zero_le _, Nat.zero_le _⟩ _ rfl (Nat.le_of_ble_eq_true rfl) dX6_loseWord_4 (fun H locs hW => ?_)
  replace hf := bd_so hf
  obtain ⟨x4, h5, hf⟩ := hf
  have J6 : ∀ (H : Heap) (locs : List Loc) (ls : Array Slot), Ww E S s H locs → lv_has ls 7 [(0, .ref (E.ad 2)), (1, .int a1), (2, .int a2), (3, .int a3), (4, .int a4)] → W p l e rm_X6_loseWord s m args below meth c H locs 0 0 Q (F0 m 15 ls [.int x4]) := by
    intro H locs ls hW hl
    refine lv_istore (lv' := [(5, .int x4), (0, .ref (E.ad 2)), (1, .int a1), (2, .int a2), (3, .int a3), (4, .int a4)]) hx hb dX6_loseWord_15 hl (by decide) rfl (fun ls hl => ?_)
    refine lv_iload_n hx hb dX6_loseWord_17 rfl (lv_at hl 2 rfl) ?_
    refine lv_iconst (v := 1) hx hb dX6_loseWord_18 (by decide) ?_
    refine lv_isub hx hb dX6_loseWord_19 ?_
    refine lv_bipush (v := 8) hx hb dX6_loseWord_20 (by decide) ?_
    refine lv_imul hx hb dX6_loseWord_22 ?_
    refine lv_iload_n hx hb dX6_loseWord_23 rfl (lv_at hl 3 rfl) ?_
    refine lv_iadd hx hb dX6_loseWord_24 ?_
    refine lv_istore (lv' := [(6, .int (((a1 - 1) * 8) + a2)), (5, .int x4), (0, .ref (E.ad 2)), (1, .int a1), (2, .int a2), (3, .int a3), (4, .int a4)]) hx hb dX6_loseWord_25 hl (by decide) rfl (fun ls hl => ?_)
    refine lv_aload_n hx hb dX6_loseWord_27 rfl (lv_at hl 2 rfl) ?_
    refine g_get (ci := 6) (k := 5) (val := .ref (E.ad 5)) C g_us hW rfl rfl rfl (in_sid _ rfl) (by decide) f_RX6_25 rfl dX6_loseWord_28 ?_
    refine lv_iload hx hb dX6_loseWord_31 (lv_at hl 0 rfl) ?_
    refine lv_iload hx hb dX6_loseWord_33 (lv_at hl 6 rfl) ?_
    replace hf := bd_so hf
    obtain ⟨x8, h9, hf⟩ := hf
    have J10 : ∀ (H : Heap) (locs : List Loc) (ls : Array Slot), Ww E S s H locs → lv_has ls 7 [(5, .int x4)] → W p l e rm_X6_loseWord s m args below meth c H locs 0 0 Q (F0 m 65 ls [.int x8, .int (((a1 - 1) * 8) + a2), .ref (E.ad 5)]) := by
      intro H locs ls hW hl
      replace hf := bd_so hf
      obtain ⟨S11, h12, hf⟩ := hf
      refine g_iast C hW h12 dX6_loseWord_65 (fun H locs hW => ?_)
      refine lv_iload hx hb dX6_loseWord_66 (lv_at hl 0 rfl) ?_
      obtain ⟨rfl, rfl⟩ := so2 hf
      exact kR _ _ _ _ hW dX6_loseWord_68
    clear hf
    have hf := h9
    clear h9
    refine lv_if_eq (tgt := 52) hx hb dX6_loseWord_35 (by decide) (fun c7 => ?_) (fun c7 => ?_)
    · replace hf := ift_ hf c7
      refine lv_aload_n hx hb dX6_loseWord_52 rfl (lv_at hl 2 rfl) ?_
      refine g_get (ci := 6) (k := 5) (val := .ref (E.ad 5)) C g_us hW rfl rfl rfl (in_sid _ rfl) (by decide) f_RX6_25 rfl dX6_loseWord_53 ?_
      refine lv_iload hx hb dX6_loseWord_56 (lv_at hl 0 rfl) ?_
      replace hf := bd_so hf
      obtain ⟨x13, h14, hf⟩ := hf
      refine g_iald C hW h14 dX6_loseWord_58 ?_
      refine lv_iconst (v := 1) hx hb dX6_loseWord_59 (by decide) ?_
      refine lv_iload_n hx hb dX6_loseWord_60 rfl (lv_at hl 5 rfl) ?_
      refine lv_ishl hx hb dX6_loseWord_61 ?_
      refine lv_iconst (v := (-1)) hx hb dX6_loseWord_62 (by decide) ?_
      refine lv_ixor hx hb dX6_loseWord_63 ?_
      refine lv_iand hx hb dX6_loseWord_64 ?_
      obtain rfl := so1 hf
      exact J10 _ _ _ hW (lv_sub hl [1] rfl)
    · replace hf := iff_ hf c7
      refine lv_aload_n hx hb dX6_loseWord_38 rfl (lv_at hl 2 rfl) ?_
      refine g_get (ci := 6) (k := 5) (val := .ref (E.ad 5)) C g_us hW rfl rfl rfl (in_sid _ rfl) (by decide) f_RX6_25 rfl dX6_loseWord_39 ?_
      refine lv_iload hx hb dX6_loseWord_42 (lv_at hl 0 rfl) ?_
      replace hf := bd_so hf
      obtain ⟨x15, h16, hf⟩ := hf
      refine g_iald C hW h16 dX6_loseWord_44 ?_
      refine lv_iconst (v := 1) hx hb dX6_loseWord_45 (by decide) ?_
      refine lv_iload_n hx hb dX6_loseWord_46 rfl (lv_at hl 5 rfl) ?_
      refine lv_ishl hx hb dX6_loseWord_47 ?_
      refine lv_ior hx hb dX6_loseWord_48 ?_
      refine lv_goto (tgt := 65) hx hb dX6_loseWord_49 (by decide) ?_
      obtain rfl := so1 hf
      exact J10 _ _ _ hW (lv_sub hl [1] rfl)
  clear hf
  have hf := h5
  clear h5
  refine lv_if_eq (tgt := 14) hx hb dX6_loseWord_7 (by decide) (fun c3 => ?_) (fun c3 => ?_)
  · replace hf := ift_ hf c3
    refine lv_iconst (v := 0) hx hb dX6_loseWord_14 (by decide) ?_
    obtain rfl := so1 hf
    exact J6 _ _ _ hW (lv_sub hl [0, 1, 2, 3, 4] rfl)
  · replace hf := iff_ hf c3
    refine lv_iconst (v := 1) hx hb dX6_loseWord_10 (by decide) ?_
    refine lv_goto (tgt := 15) hx hb dX6_loseWord_11 (by decide) ?_
    obtain rfl := so1 hf
    exact J6 _ _ _ hW (lv_sub hl [0, 1, 2, 3, 4] rfl)

abbrev rm_X7_refusal : Room := { frames := 1, cells := 0, slots := 0, locals := 60 }
set_option maxHeartbeats 4000000 in
set_option maxRecDepth 100000 in
theorem c_X7_refusal (l : Launch) (E : En) (S : St) (a0 : Nat) (a1 : Int32) (r : Int32) (hf : X7_refusal S a0 a1 = some r) : Mi l E yX7_refusal cX7_refusal 2 (some .int) rm_X7_refusal [.ref (E.ad a0), .int a1] S r S := by
  refine g_startI (cc := cX7_refusal) (n := 2) (by decide) (Nat.le_of_ble_eq_true rfl) ?_
  intro p e s m args below meth c Q H locs C kR hW ls hl
  obtain ⟨⟨hx, hb, hml, hown, hts⟩, hK, hT⟩ := id C
  have hl : lv_has ls 2 [(0, .ref (E.ad a0)), (1, .int a1)] := hl
  unfold X7_refusal at hf
  refine lv_aload_n hx hb dX7_refusal_0 rfl (lv_at hl 0 rfl) ?_
  replace hf := bd_so hf
  obtain ⟨_, h1, hf⟩ := hf
  refine g_get (ci := 7) (k := 0) (val := .int (rI S a0 0)) C g_us hW rfl (if_so h1).1.1 (if_so h1).1.2.1 (if_so h1).1.2.2 (by decide) f_RX7_9 rfl dX7_refusal_1 ?_
  refine lv_iconst (v := (-1)) hx hb dX7_refusal_4 (by decide) ?_
  refine lv_icmp_ne (tgt := 11) hx hb dX7_refusal_5 (by decide) (fun c2 => ?_) (fun c2 => ?_)
  · replace hf := iff_ hf c2
    refine lv_aload_n hx hb dX7_refusal_11 rfl (lv_at hl 0 rfl) ?_
    replace hf := bd_so hf
    obtain ⟨_, h3, hf⟩ := hf
    refine g_get (ci := 7) (k := 0) (val := .int (rI S a0 0)) C g_us hW rfl (if_so h3).1.1 (if_so h3).1.2.1 (if_so h3).1.2.2 (by decide) f_RX7_9 rfl dX7_refusal_12 ?_
    refine lv_iload_n hx hb dX7_refusal_15 rfl (lv_at hl 1 rfl) ?_
    refine lv_icmp_ne (tgt := 23) hx hb dX7_refusal_16 (by decide) (fun c4 => ?_) (fun c4 => ?_)
    · replace hf := iff_ hf c4
      refine lv_bipush (v := (-12)) hx hb dX7_refusal_23 (by decide) ?_
      obtain rfl := so1 hf
      exact kR _ _ _ _ hW dX7_refusal_25
    · replace hf := ift_ hf c4
      refine lv_iconst (v := 0) hx hb dX7_refusal_19 (by decide) ?_
      refine lv_goto (tgt := 25) hx hb dX7_refusal_20 (by decide) ?_
      obtain rfl := so1 hf
      exact kR _ _ _ _ hW dX7_refusal_25
  · replace hf := ift_ hf c2
    refine lv_bipush (v := (-11)) hx hb dX7_refusal_8 (by decide) ?_
    obtain rfl := so1 hf
    exact kR _ _ _ _ hW dX7_refusal_10

abbrev rm_X7_holds : Room := { frames := 1, cells := 0, slots := 0, locals := 60 }
set_option maxHeartbeats 4000000 in
set_option maxRecDepth 100000 in
theorem c_X7_holds (l : Launch) (E : En) (S : St) (a0 : Nat) (a1 : Int32) (a2 : Int32) (r : Int32) (hf : X7_holds S a0 a1 a2 = some r) : Mi l E yX7_holds cX7_holds 3 (some .boolean) rm_X7_holds [.ref (E.ad a0), .int a1, .int a2] S r S := by
  refine g_startZ (cc := cX7_holds) (n := 3) (by decide) (Nat.le_of_ble_eq_true rfl) ?_
  intro p e s m args below meth c Q H locs C kR hW ls hl
  obtain ⟨⟨hx, hb, hml, hown, hts⟩, hK, hT⟩ := id C
  have hl : lv_has ls 3 [(0, .ref (E.ad a0)), (1, .int a1), (2, .int a2)] := hl
  unfold X7_holds at hf
  refine lv_iload_n hx hb dX7_holds_0 rfl (lv_at hl 1 rfl) ?_
  refine lv_if_lt (tgt := 22) hx hb dX7_holds_1 (by decide) (fun c1 => ?_) (fun c1 => ?_)
  · replace hf := ift_ hf c1
    refine lv_iconst (v := 0) hx hb dX7_holds_22 (by decide) ?_
    obtain rfl := so1 hf
    exact kR _ _ _ _ hW (Or.inl rfl) dX7_holds_23
  · replace hf := iff_ hf c1
    refine lv_iload_n hx hb dX7_holds_4 rfl (lv_at hl 2 rfl) ?_
    refine lv_if_lt (tgt := 22) hx hb dX7_holds_5 (by decide) (fun c2 => ?_) (fun c2 => ?_)
    · replace hf := ift_ hf c2
      refine lv_iconst (v := 0) hx hb dX7_holds_22 (by decide) ?_
      obtain rfl := so1 hf
      exact kR _ _ _ _ hW (Or.inl rfl) dX7_holds_23
    · replace hf := iff_ hf c2
      refine lv_iload_n hx hb dX7_holds_8 rfl (lv_at hl 1 rfl) ?_
      refine lv_aload_n hx hb dX7_holds_9 rfl (lv_at hl 0 rfl) ?_
      replace hf := bd_so hf
      obtain ⟨_, h3, hf⟩ := hf
      refine g_get (ci := 7) (k := 1) (val := .int (rI S a0 1)) C g_us hW rfl (if_so h3).1.1 (if_so h3).1.2.1 (if_so h3).1.2.2 (by decide) f_RX7_19 rfl dX7_holds_10 ?_
      refine lv_iload_n hx hb dX7_holds_13 rfl (lv_at hl 2 rfl) ?_
      refine lv_isub hx hb dX7_holds_14 ?_
      refine lv_icmp_gt (tgt := 22) hx hb dX7_holds_15 (by decide) (fun c4 => ?_) (fun c4 => ?_)
      · replace hf := ift_ hf c4
        refine lv_iconst (v := 0) hx hb dX7_holds_22 (by decide) ?_
        obtain rfl := so1 hf
        exact kR _ _ _ _ hW (Or.inl rfl) dX7_holds_23
      · replace hf := iff_ hf c4
        refine lv_iconst (v := 1) hx hb dX7_holds_18 (by decide) ?_
        refine lv_goto (tgt := 23) hx hb dX7_holds_19 (by decide) ?_
        obtain rfl := so1 hf
        exact kR _ _ _ _ hW (Or.inr rfl) dX7_holds_23

abbrev rm_X7_renew : Room := { frames := 2, cells := 0, slots := 0, locals := 83 }
set_option maxHeartbeats 4000000 in
set_option maxRecDepth 100000 in
theorem c_X7_renew (l : Launch) (E : En) (S : St) (a0 : Nat) (a1 : Int32) (a2 : Int32) (r : Int32) (S1 : St) (hf : X7_renew S a0 a1 a2 = some (r, S1)) : Mi l E yX7_renew cX7_renew 3 (some .int) rm_X7_renew [.ref (E.ad a0), .int a1, .int a2] S r S1 := by
  refine g_startI (cc := cX7_renew) (n := 3) (by decide) (Nat.le_of_ble_eq_true rfl) ?_
  intro p e s m args below meth c Q H locs C kR hW ls hl
  obtain ⟨⟨hx, hb, hml, hown, hts⟩, hK, hT⟩ := id C
  have hl : lv_has ls 3 [(0, .ref (E.ad a0)), (1, .int a1), (2, .int a2)] := hl
  unfold X7_renew at hf
  refine lv_aload_n hx hb dX7_renew_0 rfl (lv_at hl 0 rfl) ?_
  refine lv_iload_n hx hb dX7_renew_1 rfl (lv_at hl 1 rfl) ?_
  replace hf := bd_so hf
  obtain ⟨_, h1, hf⟩ := hf
  replace hf := bd_so hf
  obtain ⟨S2, h3, hf⟩ := hf
  refine g_putI (ci := 7) (k := 0) C g_us hW rfl (if_so h1).1.1 (if_so h1).1.2.1 (if_so h1).1.2.2 (by decide) f_RX7_9 rfl rfl rfl h3 dX7_renew_2 (fun H locs hW => ?_)
  refine lv_aload_n hx hb dX7_renew_5 rfl (lv_at hl 0 rfl) ?_
  refine lv_iload_n hx hb dX7_renew_6 rfl (lv_at hl 2 rfl) ?_
  replace hf := bd_so hf
  obtain ⟨_, h4, hf⟩ := hf
  replace hf := bd_so hf
  obtain ⟨S5, h6, hf⟩ := hf
  refine g_putI (ci := 7) (k := 1) C g_us hW rfl (if_so h4).1.1 (if_so h4).1.2.1 (if_so h4).1.2.2 (by decide) f_RX7_19 rfl rfl rfl h6 dX7_renew_7 (fun H locs hW => ?_)
  refine lv_aload_n hx hb dX7_renew_10 rfl (lv_at hl 0 rfl) ?_
  replace hf := bd_so hf
  obtain ⟨_, h7, hf⟩ := hf
  refine g_get (ci := 7) (k := 2) (val := .ref (E.ad (a0 + 1))) C g_us hW rfl (if_so h7).1.1 (if_so h7).1.2.1 (if_so h7).1.2.2 (by decide) f_RX7_15 rfl dX7_renew_11 ?_
  refine lv_iconst (v := 0) hx hb dX7_renew_14 (by decide) ?_
  replace hf := bd_so hf
  obtain ⟨S9, h8, hf⟩ := hf
  refine g_callSv (As := [.ref (E.ad (a0 + 1)), .int 0]) (rest := []) C g_us hW hl.1 (c_J7_fill_53178 l E S5 (a0 + 1) 0 _ h8) k_RX7_22 rfl ⟨rfl, rfl⟩ ⟨Nat.le_of_ble_eq_true rfl, Nat.le_of_ble_eq_true rfl⟩ ⟨Nat.zero_le _, Nat.zero_le _⟩ _ rfl (Nat.le_of_ble_eq_true rfl) dX7_renew_15 (fun H locs hW => ?_)
  refine lv_iload_n hx hb dX7_renew_18 rfl (lv_at hl 2 rfl) ?_
  obtain ⟨rfl, rfl⟩ := so2 hf
  exact kR _ _ _ _ hW dX7_renew_19

abbrev rm_X7_empty : Room := { frames := 1, cells := 0, slots := 0, locals := 60 }
set_option maxHeartbeats 4000000 in
set_option maxRecDepth 100000 in
theorem c_X7_empty (l : Launch) (E : En) (S : St) (a0 : Nat) (r : Int32) (S1 : St) (hf : X7_empty S a0 = some (r, S1)) : Mi l E yX7_empty cX7_empty 1 (some .int) rm_X7_empty [.ref (E.ad a0)] S r S1 := by
  refine g_startI (cc := cX7_empty) (n := 1) (by decide) (Nat.le_of_ble_eq_true rfl) ?_
  intro p e s m args below meth c Q H locs C kR hW ls hl
  obtain ⟨⟨hx, hb, hml, hown, hts⟩, hK, hT⟩ := id C
  have hl : lv_has ls 1 [(0, .ref (E.ad a0))] := hl
  unfold X7_empty at hf
  refine lv_aload_n hx hb dX7_empty_0 rfl (lv_at hl 0 rfl) ?_
  refine lv_iconst (v := (-1)) hx hb dX7_empty_1 (by decide) ?_
  replace hf := bd_so hf
  obtain ⟨_, h1, hf⟩ := hf
  replace hf := bd_so hf
  obtain ⟨S2, h3, hf⟩ := hf
  refine g_putI (ci := 7) (k := 0) C g_us hW rfl (if_so h1).1.1 (if_so h1).1.2.1 (if_so h1).1.2.2 (by decide) f_RX7_9 rfl rfl rfl h3 dX7_empty_2 (fun H locs hW => ?_)
  refine lv_aload_n hx hb dX7_empty_5 rfl (lv_at hl 0 rfl) ?_
  replace hf := bd_so hf
  obtain ⟨_, h4, hf⟩ := hf
  refine g_get (ci := 7) (k := 1) (val := .int (rI S2 a0 1)) C g_us hW rfl (if_so h4).1.1 (if_so h4).1.2.1 (if_so h4).1.2.2 (by decide) f_RX7_19 rfl dX7_empty_6 ?_
  obtain ⟨rfl, rfl⟩ := so2 hf
  exact kR _ _ _ _ hW dX7_empty_9

abbrev rm_X7_put : Room := { frames := 1, cells := 0, slots := 0, locals := 60 }
set_option maxHeartbeats 4000000 in
set_option maxRecDepth 100000 in
theorem c_X7_put (l : Launch) (E : En) (S : St) (a0 : Nat) (a1 : Int32) (a2 : Int32) (r : Int32) (S1 : St) (hf : X7_put S a0 a1 a2 = some (r, S1)) : Mi l E yX7_put cX7_put 3 (some .int) rm_X7_put [.ref (E.ad a0), .int a1, .int a2] S r S1 := by
  refine g_startI (cc := cX7_put) (n := 3) (by decide) (Nat.le_of_ble_eq_true rfl) ?_
  intro p e s m args below meth c Q H locs C kR hW ls hl
  obtain ⟨⟨hx, hb, hml, hown, hts⟩, hK, hT⟩ := id C
  have hl : lv_has ls 3 [(0, .ref (E.ad a0)), (1, .int a1), (2, .int a2)] := hl
  unfold X7_put at hf
  refine lv_aload_n hx hb dX7_put_0 rfl (lv_at hl 0 rfl) ?_
  replace hf := bd_so hf
  obtain ⟨_, h1, hf⟩ := hf
  refine g_get (ci := 7) (k := 2) (val := .ref (E.ad (a0 + 1))) C g_us hW rfl (if_so h1).1.1 (if_so h1).1.2.1 (if_so h1).1.2.2 (by decide) f_RX7_15 rfl dX7_put_1 ?_
  refine lv_iload_n hx hb dX7_put_4 rfl (lv_at hl 1 rfl) ?_
  refine lv_aload_n hx hb dX7_put_5 rfl (lv_at hl 0 rfl) ?_
  replace hf := bd_so hf
  obtain ⟨_, h2, hf⟩ := hf
  refine g_get (ci := 7) (k := 0) (val := .int (rI S a0 0)) C g_us hW rfl (if_so h2).1.1 (if_so h2).1.2.1 (if_so h2).1.2.2 (by decide) f_RX7_9 rfl dX7_put_6 ?_
  replace hf := bd_so hf
  obtain ⟨x4, h5, hf⟩ := hf
  have J6 : ∀ (H : Heap) (locs : List Loc) (ls : Array Slot), Ww E S s H locs → lv_has ls 3 [] → W p l e rm_X7_put s m args below meth c H locs 0 0 Q (F0 m 31 ls [.int x4, .int a1, .ref (E.ad (a0 + 1))]) := by
    intro H locs ls hW hl
    replace hf := bd_so hf
    obtain ⟨S7, h8, hf⟩ := hf
    refine g_iast C hW h8 dX7_put_31 (fun H locs hW => ?_)
    refine lv_iconst (v := 1) hx hb dX7_put_32 (by decide) ?_
    obtain ⟨rfl, rfl⟩ := so2 hf
    exact kR _ _ _ _ hW dX7_put_33
  clear hf
  have hf := h5
  clear h5
  refine lv_if_ne (tgt := 17) hx hb dX7_put_9 (by decide) (fun c3 => ?_) (fun c3 => ?_)
  · replace hf := iff_ hf c3
    refine lv_aload_n hx hb dX7_put_17 rfl (lv_at hl 0 rfl) ?_
    replace hf := bd_so hf
    obtain ⟨_, h9, hf⟩ := hf
    refine g_get (ci := 7) (k := 0) (val := .int (rI S a0 0)) C g_us hW rfl (if_so h9).1.1 (if_so h9).1.2.1 (if_so h9).1.2.2 (by decide) f_RX7_9 rfl dX7_put_18 ?_
    refine lv_iconst (v := 1) hx hb dX7_put_21 (by decide) ?_
    refine lv_icmp_ne (tgt := 30) hx hb dX7_put_22 (by decide) (fun c10 => ?_) (fun c10 => ?_)
    · replace hf := iff_ hf c10
      refine lv_iload_n hx hb dX7_put_30 rfl (lv_at hl 2 rfl) ?_
      obtain rfl := so1 hf
      exact J6 _ _ _ hW (lv_sub hl [] rfl)
    · replace hf := ift_ hf c10
      refine lv_iload_n hx hb dX7_put_25 rfl (lv_at hl 2 rfl) ?_
      refine lv_i2s (v := (a2 : Int32).toInt16.toInt32) hx hb dX7_put_26 rfl ?_
      refine lv_goto (tgt := 31) hx hb dX7_put_27 (by decide) ?_
      obtain rfl := so1 hf
      exact J6 _ _ _ hW (lv_sub hl [] rfl)
  · replace hf := ift_ hf c3
    refine lv_iload_n hx hb dX7_put_12 rfl (lv_at hl 2 rfl) ?_
    refine lv_i2b (v := (a2 : Int32).toInt8.toInt32) hx hb dX7_put_13 rfl ?_
    refine lv_goto (tgt := 31) hx hb dX7_put_14 (by decide) ?_
    obtain rfl := so1 hf
    exact J6 _ _ _ hW (lv_sub hl [] rfl)
