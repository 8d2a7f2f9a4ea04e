abbrev rm_X10_room : Room := { frames := 2, cells := 0, slots := 0, locals := 82 }
set_option maxHeartbeats 4000000 in
set_option maxRecDepth 100000 in
theorem c_X10_room (l : Launch) (E : En) (S : St) (a1 : Int32) (r : Int32) (S1 : St) (hf : X10_room S a1 = some (r, S1)) : Mi l E yX10_room cX10_room 2 (some .int) rm_X10_room [.ref (E.ad 0), .int a1] S r S1 := by
  refine g_startI (cc := cX10_room) (n := 2) (by decide) (Nat.le_of_ble_eq_true rfl) ?_
  intro p e s m args below meth c Q H locs C kR hW ls hl
  obtain ⟨⟨hx, hb, hml, hown, hts⟩, hK, hT⟩ := id C
  have hl : lv_has ls 2 [(0, .ref (E.ad 0)), (1, .int a1)] := hl
  unfold X10_room at hf
  refine lv_iload_n hx hb dX10_room_0 rfl (lv_at hl 1 rfl) ?_
  refine lv_if_lt (tgt := 9) hx hb dX10_room_1 (by decide) (fun c1 => ?_) (fun c1 => ?_)
  · replace hf := ift_ hf c1
    refine lv_iconst (v := (-1)) hx hb dX10_room_9 (by decide) ?_
    obtain ⟨rfl, rfl⟩ := so2 hf
    exact kR _ _ _ _ hW dX10_room_10
  · replace hf := iff_ hf c1
    refine lv_iload_n hx hb dX10_room_4 rfl (lv_at hl 1 rfl) ?_
    refine lv_iconst (v := 5) hx hb dX10_room_5 (by decide) ?_
    refine lv_icmp_le (tgt := 11) hx hb dX10_room_6 (by decide) (fun c2 => ?_) (fun c2 => ?_)
    · replace hf := ift_ hf c2
      refine lv_aload_n hx hb dX10_room_11 rfl (lv_at hl 0 rfl) ?_
      refine g_get (ci := 10) (k := 0) (val := .ref (E.ad 1)) C g_us hW rfl rfl rfl (in_sid _ rfl) (by decide) f_RX10_10 rfl dX10_room_12 ?_
      refine g_get (ci := 1) (k := 0) (val := .ref (E.ad 2)) C g_us hW rfl rfl rfl (in_sid _ rfl) (by decide) f_RX10_62 rfl dX10_room_15 ?_
      refine g_get (ci := 6) (k := 0) (val := .int (rI S 2 0)) C g_us hW rfl rfl rfl (in_sid _ rfl) (by decide) f_RX10_66 rfl dX10_room_18 ?_
      refine lv_bipush (v := 8) hx hb dX10_room_21 (by decide) ?_
      refine lv_icmp_ne (tgt := 31) hx hb dX10_room_23 (by decide) (fun c3 => ?_) (fun c3 => ?_)
      · replace hf := iff_ hf c3
        refine lv_aload_n hx hb dX10_room_31 rfl (lv_at hl 0 rfl) ?_
        refine g_get (ci := 10) (k := 0) (val := .ref (E.ad 1)) C g_us hW rfl rfl rfl (in_sid _ rfl) (by decide) f_RX10_10 rfl dX10_room_32 ?_
        refine g_get (ci := 1) (k := 0) (val := .ref (E.ad 2)) C g_us hW rfl rfl rfl (in_sid _ rfl) (by decide) f_RX10_62 rfl dX10_room_35 ?_
        refine lv_iload_n hx hb dX10_room_38 rfl (lv_at hl 1 rfl) ?_
        replace hf := bd_so hf
        obtain ⟨⟨x5, S6⟩, h4, hf⟩ := hf
        dsimp only at hf
        refine g_callVi (ci := 6) (As := [.int a1]) (rest := []) C g_us hW hl.1 (c_X6_add l E S a1 _ _ h4) rfl rfl rfl (in_sid _ rfl) k_RX10_72 rfl ⟨rfl, rfl⟩ ⟨Nat.le_of_ble_eq_true rfl, Nat.le_of_ble_eq_true rfl⟩ ⟨Nat.zero_le _, Nat.zero_le _⟩ _ rfl (Nat.le_of_ble_eq_true rfl) dX10_room_39 (fun H locs hW => ?_)
        obtain ⟨rfl, rfl⟩ := so2 hf
        exact kR _ _ _ _ hW dX10_room_42
      · replace hf := ift_ hf c3
        refine lv_bipush (v := (-3)) hx hb dX10_room_26 (by decide) ?_
        refine lv_goto (tgt := 42) hx hb dX10_room_28 (by decide) ?_
        obtain ⟨rfl, rfl⟩ := so2 hf
        exact kR _ _ _ _ hW dX10_room_42
    · replace hf := iff_ hf c2
      refine lv_iconst (v := (-1)) hx hb dX10_room_9 (by decide) ?_
      obtain ⟨rfl, rfl⟩ := so2 hf
      exact kR _ _ _ _ hW dX10_room_10

abbrev rm_X10_set : Room := { frames := 3, cells := 0, slots := 0, locals := 106 }
set_option maxHeartbeats 4000000 in
set_option maxRecDepth 100000 in
theorem c_X10_set (l : Launch) (E : En) (S : St) (a1 : Int32) (a2 : Int32) (a3 : Int32) (r : Int32) (S1 : St) (hf : X10_set S a1 a2 a3 = some (r, S1)) : Mi l E yX10_set cX10_set 4 (some .int) rm_X10_set [.ref (E.ad 0), .int a1, .int a2, .int a3] S r S1 := by
  refine g_startI (cc := cX10_set) (n := 4) (by decide) (Nat.le_of_ble_eq_true rfl) ?_
  intro p e s m args below meth c Q H locs C kR hW ls hl
  obtain ⟨⟨hx, hb, hml, hown, hts⟩, hK, hT⟩ := id C
  have hl : lv_has ls 4 [(0, .ref (E.ad 0)), (1, .int a1), (2, .int a2), (3, .int a3)] := hl
  unfold X10_set at hf
  refine lv_aload_n hx hb dX10_set_0 rfl (lv_at hl 0 rfl) ?_
  refine g_get (ci := 10) (k := 0) (val := .ref (E.ad 1)) C g_us hW rfl rfl rfl (in_sid _ rfl) (by decide) f_RX10_10 rfl dX10_set_1 ?_
  refine g_get (ci := 1) (k := 0) (val := .ref (E.ad 2)) C g_us hW rfl rfl rfl (in_sid _ rfl) (by decide) f_RX10_62 rfl dX10_set_4 ?_
  refine lv_iload_n hx hb dX10_set_7 rfl (lv_at hl 1 rfl) ?_
  replace hf := bd_so hf
  obtain ⟨x2, h1, hf⟩ := hf
  refine g_callVi (ci := 6) (As := [.int a1]) (rest := []) C g_us hW hl.1 (c_X6_has l E S a1 _ h1) rfl rfl rfl (in_sid _ rfl) k_RX10_76 rfl ⟨rfl, rfl⟩ ⟨Nat.le_of_ble_eq_true rfl, Nat.le_of_ble_eq_true rfl⟩ ⟨Nat.zero_le _, Nat.zero_le _⟩ _ rfl (Nat.le_of_ble_eq_true rfl) dX10_set_8 (fun H locs hW => ?_)
  refine lv_if_eq (tgt := 37) hx hb dX10_set_11 (by decide) (fun c3 => ?_) (fun c3 => ?_)
  · replace hf := ift_ hf c3
    refine lv_iconst (v := (-1)) hx hb dX10_set_37 (by decide) ?_
    obtain ⟨rfl, rfl⟩ := so2 hf
    exact kR _ _ _ _ hW dX10_set_38
  · replace hf := iff_ hf c3
    refine lv_iload_n hx hb dX10_set_14 rfl (lv_at hl 2 rfl) ?_
    refine lv_if_lt (tgt := 37) hx hb dX10_set_15 (by decide) (fun c4 => ?_) (fun c4 => ?_)
    · replace hf := ift_ hf c4
      refine lv_iconst (v := (-1)) hx hb dX10_set_37 (by decide) ?_
      obtain ⟨rfl, rfl⟩ := so2 hf
      exact kR _ _ _ _ hW dX10_set_38
    · replace hf := iff_ hf c4
      refine lv_iload_n hx hb dX10_set_18 rfl (lv_at hl 2 rfl) ?_
      refine lv_bipush (v := 6) hx hb dX10_set_19 (by decide) ?_
      refine lv_icmp_ge (tgt := 37) hx hb dX10_set_21 (by decide) (fun c5 => ?_) (fun c5 => ?_)
      · replace hf := ift_ hf c5
        refine lv_iconst (v := (-1)) hx hb dX10_set_37 (by decide) ?_
        obtain ⟨rfl, rfl⟩ := so2 hf
        exact kR _ _ _ _ hW dX10_set_38
      · replace hf := iff_ hf c5
        refine lv_iload_n hx hb dX10_set_24 rfl (lv_at hl 3 rfl) ?_
        refine lv_if_lt (tgt := 37) hx hb dX10_set_25 (by decide) (fun c6 => ?_) (fun c6 => ?_)
        · replace hf := ift_ hf c6
          refine lv_iconst (v := (-1)) hx hb dX10_set_37 (by decide) ?_
          obtain ⟨rfl, rfl⟩ := so2 hf
          exact kR _ _ _ _ hW dX10_set_38
        · replace hf := iff_ hf c6
          refine lv_iload_n hx hb dX10_set_28 rfl (lv_at hl 3 rfl) ?_
          refine g_gets2 C g_us hW f_RX10_80 dX10_set_29 ?_
          refine lv_iload_n hx hb dX10_set_32 rfl (lv_at hl 2 rfl) ?_
          replace hf := bd_so hf
          obtain ⟨x7, h8, hf⟩ := hf
          refine g_tld2 C hW h8 dX10_set_33 ?_
          refine lv_icmp_le (tgt := 39) hx hb dX10_set_34 (by decide) (fun c9 => ?_) (fun c9 => ?_)
          · replace hf := ift_ hf c9
            refine lv_aload_n hx hb dX10_set_39 rfl (lv_at hl 0 rfl) ?_
            refine g_get (ci := 10) (k := 0) (val := .ref (E.ad 1)) C g_us hW rfl rfl rfl (in_sid _ rfl) (by decide) f_RX10_10 rfl dX10_set_40 ?_
            refine g_get (ci := 1) (k := 0) (val := .ref (E.ad 2)) C g_us hW rfl rfl rfl (in_sid _ rfl) (by decide) f_RX10_62 rfl dX10_set_43 ?_
            refine lv_iload_n hx hb dX10_set_46 rfl (lv_at hl 1 rfl) ?_
            refine lv_iload_n hx hb dX10_set_47 rfl (lv_at hl 2 rfl) ?_
            refine lv_iload_n hx hb dX10_set_48 rfl (lv_at hl 3 rfl) ?_
            replace hf := bd_so hf
            obtain ⟨⟨x11, S12⟩, h10, hf⟩ := hf
            dsimp only at hf
            refine g_callVi (ci := 6) (As := [.int a1, .int a2, .int a3]) (rest := []) C g_us hW hl.1 (c_X6_change l E S a1 a2 a3 _ _ h10) rfl rfl rfl (in_sid _ rfl) k_RX10_84 rfl ⟨rfl, rfl⟩ ⟨Nat.le_of_ble_eq_true rfl, Nat.le_of_ble_eq_true rfl⟩ ⟨Nat.zero_le _, Nat.zero_le _⟩ _ rfl (Nat.le_of_ble_eq_true rfl) dX10_set_49 (fun H locs hW => ?_)
            obtain ⟨rfl, rfl⟩ := so2 hf
            exact kR _ _ _ _ hW dX10_set_52
          · replace hf := iff_ hf c9
            refine lv_iconst (v := (-1)) hx hb dX10_set_37 (by decide) ?_
            obtain ⟨rfl, rfl⟩ := so2 hf
            exact kR _ _ _ _ hW dX10_set_38

abbrev rm_X10_wire : Room := { frames := 3, cells := 0, slots := 0, locals := 106 }
set_option maxHeartbeats 4000000 in
set_option maxRecDepth 100000 in
theorem c_X10_wire (l : Launch) (E : En) (S : St) (a1 : Int32) (a2 : Int32) (a3 : Int32) (r : Int32) (S1 : St) (hf : X10_wire S a1 a2 a3 = some (r, S1)) : Mi l E yX10_wire cX10_wire 4 (some .int) rm_X10_wire [.ref (E.ad 0), .int a1, .int a2, .int a3] S r S1 := by
  refine g_startI (cc := cX10_wire) (n := 4) (by decide) (Nat.le_of_ble_eq_true rfl) ?_
  intro p e s m args below meth c Q H locs C kR hW ls hl
  obtain ⟨⟨hx, hb, hml, hown, hts⟩, hK, hT⟩ := id C
  have hl : lv_has ls 4 [(0, .ref (E.ad 0)), (1, .int a1), (2, .int a2), (3, .int a3)] := hl
  unfold X10_wire at hf
  refine lv_aload_n hx hb dX10_wire_0 rfl (lv_at hl 0 rfl) ?_
  refine g_get (ci := 10) (k := 0) (val := .ref (E.ad 1)) C g_us hW rfl rfl rfl (in_sid _ rfl) (by decide) f_RX10_10 rfl dX10_wire_1 ?_
  refine g_get (ci := 1) (k := 0) (val := .ref (E.ad 2)) C g_us hW rfl rfl rfl (in_sid _ rfl) (by decide) f_RX10_62 rfl dX10_wire_4 ?_
  refine lv_iload_n hx hb dX10_wire_7 rfl (lv_at hl 1 rfl) ?_
  refine lv_iload_n hx hb dX10_wire_8 rfl (lv_at hl 2 rfl) ?_
  replace hf := bd_so hf
  obtain ⟨x2, h1, hf⟩ := hf
  refine g_callVi (ci := 6) (As := [.int a1, .int a2]) (rest := []) C g_us hW hl.1 (c_X6_hasTwo l E S a1 a2 _ h1) rfl rfl rfl (in_sid _ rfl) k_RX10_88 rfl ⟨rfl, rfl⟩ ⟨Nat.le_of_ble_eq_true rfl, Nat.le_of_ble_eq_true rfl⟩ ⟨Nat.zero_le _, Nat.zero_le _⟩ _ rfl (Nat.le_of_ble_eq_true rfl) dX10_wire_9 (fun H locs hW => ?_)
  refine lv_if_eq (tgt := 26) hx hb dX10_wire_12 (by decide) (fun c3 => ?_) (fun c3 => ?_)
  · replace hf := ift_ hf c3
    refine lv_iconst (v := (-1)) hx hb dX10_wire_26 (by decide) ?_
    obtain ⟨rfl, rfl⟩ := so2 hf
    exact kR _ _ _ _ hW dX10_wire_27
  · replace hf := iff_ hf c3
    refine lv_iload_n hx hb dX10_wire_15 rfl (lv_at hl 3 rfl) ?_
    refine lv_if_lt (tgt := 26) hx hb dX10_wire_16 (by decide) (fun c4 => ?_) (fun c4 => ?_)
    · replace hf := ift_ hf c4
      refine lv_iconst (v := (-1)) hx hb dX10_wire_26 (by decide) ?_
      obtain ⟨rfl, rfl⟩ := so2 hf
      exact kR _ _ _ _ hW dX10_wire_27
    · replace hf := iff_ hf c4
      refine lv_iload_n hx hb dX10_wire_19 rfl (lv_at hl 3 rfl) ?_
      refine lv_sipush (v := 400) hx hb dX10_wire_20 (by decide) ?_
      refine lv_icmp_le (tgt := 28) hx hb dX10_wire_23 (by decide) (fun c5 => ?_) (fun c5 => ?_)
      · replace hf := ift_ hf c5
        refine lv_aload_n hx hb dX10_wire_28 rfl (lv_at hl 0 rfl) ?_
        refine g_get (ci := 10) (k := 0) (val := .ref (E.ad 1)) C g_us hW rfl rfl rfl (in_sid _ rfl) (by decide) f_RX10_10 rfl dX10_wire_29 ?_
        refine g_get (ci := 1) (k := 0) (val := .ref (E.ad 2)) C g_us hW rfl rfl rfl (in_sid _ rfl) (by decide) f_RX10_62 rfl dX10_wire_32 ?_
        refine lv_iload_n hx hb dX10_wire_35 rfl (lv_at hl 1 rfl) ?_
        refine lv_iload_n hx hb dX10_wire_36 rfl (lv_at hl 2 rfl) ?_
        refine lv_iload_n hx hb dX10_wire_37 rfl (lv_at hl 3 rfl) ?_
        replace hf := bd_so hf
        obtain ⟨⟨x7, S8⟩, h6, hf⟩ := hf
        dsimp only at hf
        refine g_callVi (ci := 6) (As := [.int a1, .int a2, .int a3]) (rest := []) C g_us hW hl.1 (c_X6_lay l E S a1 a2 a3 _ _ h6) rfl rfl rfl (in_sid _ rfl) k_RX10_92 rfl ⟨rfl, rfl⟩ ⟨Nat.le_of_ble_eq_true rfl, Nat.le_of_ble_eq_true rfl⟩ ⟨Nat.zero_le _, Nat.zero_le _⟩ _ rfl (Nat.le_of_ble_eq_true rfl) dX10_wire_38 (fun H locs hW => ?_)
        obtain ⟨rfl, rfl⟩ := so2 hf
        exact kR _ _ _ _ hW dX10_wire_41
      · replace hf := iff_ hf c5
        refine lv_iconst (v := (-1)) hx hb dX10_wire_26 (by decide) ?_
        obtain ⟨rfl, rfl⟩ := so2 hf
        exact kR _ _ _ _ hW dX10_wire_27

abbrev rm_X10_isSheet : Room := { frames := 1, cells := 0, slots := 0, locals := 60 }
set_option maxHeartbeats 4000000 in
set_option maxRecDepth 100000 in
theorem c_X10_isSheet (l : Launch) (E : En) (S : St) (a0 : Int32) (r : Int32) (hf : X10_isSheet S a0 = some r) : Mi l E yX10_isSheet cX10_isSheet 1 (some .boolean) rm_X10_isSheet [.int a0] S r S := by
  refine g_startZ (cc := cX10_isSheet) (n := 1) (by decide) (Nat.le_of_ble_eq_true rfl) ?_
  intro p e s m args below meth c Q H locs C kR hW ls hl
  obtain ⟨⟨hx, hb, hml, hown, hts⟩, hK, hT⟩ := id C
  have hl : lv_has ls 1 [(0, .int a0)] := hl
  unfold X10_isSheet at hf
  refine lv_iload_n hx hb dX10_isSheet_0 rfl (lv_at hl 0 rfl) ?_
  refine lv_if_lt (tgt := 13) hx hb dX10_isSheet_1 (by decide) (fun c1 => ?_) (fun c1 => ?_)
  · replace hf := ift_ hf c1
    refine lv_iconst (v := 0) hx hb dX10_isSheet_13 (by decide) ?_
    obtain rfl := so1 hf
    exact kR _ _ _ _ hW (Or.inl rfl) dX10_isSheet_14
  · replace hf := iff_ hf c1
    refine lv_iload_n hx hb dX10_isSheet_4 rfl (lv_at hl 0 rfl) ?_
    refine lv_iconst (v := 4) hx hb dX10_isSheet_5 (by decide) ?_
    refine lv_icmp_ge (tgt := 13) hx hb dX10_isSheet_6 (by decide) (fun c2 => ?_) (fun c2 => ?_)
    · replace hf := ift_ hf c2
      refine lv_iconst (v := 0) hx hb dX10_isSheet_13 (by decide) ?_
      obtain rfl := so1 hf
      exact kR _ _ _ _ hW (Or.inl rfl) dX10_isSheet_14
    · replace hf := iff_ hf c2
      refine lv_iconst (v := 1) hx hb dX10_isSheet_9 (by decide) ?_
      refine lv_goto (tgt := 14) hx hb dX10_isSheet_10 (by decide) ?_
      obtain rfl := so1 hf
      exact kR _ _ _ _ hW (Or.inr rfl) dX10_isSheet_14

abbrev rm_X10_isLane : Room := { frames := 1, cells := 0, slots := 0, locals := 60 }
set_option maxHeartbeats 4000000 in
set_option maxRecDepth 100000 in
theorem c_X10_isLane (l : Launch) (E : En) (S : St) (a0 : Int32) (r : Int32) (hf : X10_isLane S a0 = some r) : Mi l E yX10_isLane cX10_isLane 1 (some .boolean) rm_X10_isLane [.int a0] S r S := by
  refine g_startZ (cc := cX10_isLane) (n := 1) (by decide) (Nat.le_of_ble_eq_true rfl) ?_
  intro p e s m args below meth c Q H locs C kR hW ls hl
  obtain ⟨⟨hx, hb, hml, hown, hts⟩, hK, hT⟩ := id C
  have hl : lv_has ls 1 [(0, .int a0)] := hl
  unfold X10_isLane at hf
  refine lv_iload_n hx hb dX10_isLane_0 rfl (lv_at hl 0 rfl) ?_
  refine lv_if_lt (tgt := 13) hx hb dX10_isLane_1 (by decide) (fun c1 => ?_) (fun c1 => ?_)
  · replace hf := ift_ hf c1
    refine lv_iconst (v := 0) hx hb dX10_isLane_13 (by decide) ?_
    obtain rfl := so1 hf
    exact kR _ _ _ _ hW (Or.inl rfl) dX10_isLane_14
  · replace hf := iff_ hf c1
    refine lv_iload_n hx hb dX10_isLane_4 rfl (lv_at hl 0 rfl) ?_
    refine lv_iconst (v := 2) hx hb dX10_isLane_5 (by decide) ?_
    refine lv_icmp_gt (tgt := 13) hx hb dX10_isLane_6 (by decide) (fun c2 => ?_) (fun c2 => ?_)
    · replace hf := ift_ hf c2
      refine lv_iconst (v := 0) hx hb dX10_isLane_13 (by decide) ?_
      obtain rfl := so1 hf
      exact kR _ _ _ _ hW (Or.inl rfl) dX10_isLane_14
    · replace hf := iff_ hf c2
      refine lv_iconst (v := 1) hx hb dX10_isLane_9 (by decide) ?_
      refine lv_goto (tgt := 14) hx hb dX10_isLane_10 (by decide) ?_
      obtain rfl := so1 hf
      exact kR _ _ _ _ hW (Or.inr rfl) dX10_isLane_14

abbrev rm_X10_wires : Room := { frames := 4, cells := 0, slots := 0, locals := 131 }
set_option maxHeartbeats 4000000 in
set_option maxRecDepth 100000 in
theorem c_X10_wires (l : Launch) (E : En) (S : St) (a1 : Int32) (a2 : Int32) (a3 : Int32) (a4 : Int32) (r : Int32) (S1 : St) (hf : X10_wires S a1 a2 a3 a4 = some (r, S1)) : Mi l E yX10_wires cX10_wires 7 (some .int) rm_X10_wires [.ref (E.ad 0), .int a1, .int a2, .int a3, .int a4] S r S1 := by
  refine g_startI (cc := cX10_wires) (n := 7) (by decide) (Nat.le_of_ble_eq_true rfl) ?_
  intro p e s m args below meth c Q H locs C kR hW ls hl
  obtain ⟨⟨hx, hb, hml, hown, hts⟩, hK, hT⟩ := id C
  have hl : lv_has ls 7 [(0, .ref (E.ad 0)), (1, .int a1), (2, .int a2), (3, .int a3), (4, .int a4)] := hl
  unfold X10_wires at hf
  refine lv_aload_n hx hb dX10_wires_0 rfl (lv_at hl 0 rfl) ?_
  refine g_get (ci := 10) (k := 0) (val := .ref (E.ad 1)) C g_us hW rfl rfl rfl (in_sid _ rfl) (by decide) f_RX10_10 rfl dX10_wires_1 ?_
  refine g_get (ci := 1) (k := 0) (val := .ref (E.ad 2)) C g_us hW rfl rfl rfl (in_sid _ rfl) (by decide) f_RX10_62 rfl dX10_wires_4 ?_
  refine lv_iload_n hx hb dX10_wires_7 rfl (lv_at hl 1 rfl) ?_
  replace hf := bd_so hf
  obtain ⟨x2, h1, hf⟩ := hf
  refine g_callVi (ci := 6) (As := [.int a1]) (rest := []) C g_us hW hl.1 (c_X6_has l E S a1 _ h1) rfl rfl rfl (in_sid _ rfl) k_RX10_76 rfl ⟨rfl, rfl⟩ ⟨Nat.le_of_ble_eq_true rfl, Nat.le_of_ble_eq_true rfl⟩ ⟨Nat.zero_le _, Nat.zero_le _⟩ _ rfl (Nat.le_of_ble_eq_true rfl) dX10_wires_8 (fun H locs hW => ?_)
  refine lv_if_eq (tgt := 28) hx hb dX10_wires_11 (by decide) (fun c3 => ?_) (fun c3 => ?_)
  · replace hf := ift_ hf c3
    refine lv_iconst (v := (-1)) hx hb dX10_wires_28 (by decide) ?_
    obtain ⟨rfl, rfl⟩ := so2 hf
    exact kR _ _ _ _ hW dX10_wires_29
  · replace hf := iff_ hf c3
    refine lv_iload_n hx hb dX10_wires_14 rfl (lv_at hl 2 rfl) ?_
    replace hf := bd_so hf
    obtain ⟨x5, h4, hf⟩ := hf
    refine g_callSi (As := [.int a2]) (rest := []) C g_us hW hl.1 (c_X10_isSheet l E S a2 _ h4) k_RX10_95 rfl ⟨rfl, rfl⟩ ⟨Nat.le_of_ble_eq_true rfl, Nat.le_of_ble_eq_true rfl⟩ ⟨Nat.zero_le _, Nat.zero_le _⟩ _ rfl (Nat.le_of_ble_eq_true rfl) dX10_wires_15 (fun H locs hW => ?_)
    refine lv_if_eq (tgt := 28) hx hb dX10_wires_18 (by decide) (fun c6 => ?_) (fun c6 => ?_)
    · replace hf := ift_ hf c6
      refine lv_iconst (v := (-1)) hx hb dX10_wires_28 (by decide) ?_
      obtain ⟨rfl, rfl⟩ := so2 hf
      exact kR _ _ _ _ hW dX10_wires_29
    · replace hf := iff_ hf c6
      refine lv_iload_n hx hb dX10_wires_21 rfl (lv_at hl 3 rfl) ?_
      replace hf := bd_so hf
      obtain ⟨x8, h7, hf⟩ := hf
      refine g_callSi (As := [.int a3]) (rest := []) C g_us hW hl.1 (c_X10_isLane l E S a3 _ h7) k_RX10_98 rfl ⟨rfl, rfl⟩ ⟨Nat.le_of_ble_eq_true rfl, Nat.le_of_ble_eq_true rfl⟩ ⟨Nat.zero_le _, Nat.zero_le _⟩ _ rfl (Nat.le_of_ble_eq_true rfl) dX10_wires_22 (fun H locs hW => ?_)
      refine lv_if_ne (tgt := 30) hx hb dX10_wires_25 (by decide) (fun c9 => ?_) (fun c9 => ?_)
      · replace hf := iff_ hf c9
        refine lv_aload_n hx hb dX10_wires_30 rfl (lv_at hl 0 rfl) ?_
        refine g_get (ci := 10) (k := 3) (val := .ref (E.ad 15)) C g_us hW rfl rfl rfl (in_sid _ rfl) (by decide) f_RX10_30 rfl dX10_wires_31 ?_
        refine lv_iload_n hx hb dX10_wires_34 rfl (lv_at hl 2 rfl) ?_
        replace hf := bd_so hf
        obtain ⟨y10, h11, hf⟩ := hf
        refine g_sht C hW h11 dX10_wires_35 ?_
        refine lv_astore (lv' := [(5, .ref (E.ad y10)), (0, .ref (E.ad 0)), (1, .int a1), (2, .int a2), (3, .int a3), (4, .int a4)]) hx hb dX10_wires_36 hl (by decide) rfl (fun ls hl => ?_)
        refine lv_aload hx hb dX10_wires_38 (lv_at hl 0 rfl) ?_
        refine lv_iload_n hx hb dX10_wires_40 rfl (lv_at hl 4 rfl) ?_
        replace hf := bd_so hf
        obtain ⟨_, h12, hf⟩ := hf
        replace hf := bd_so hf
        obtain ⟨x14, h13, hf⟩ := hf
        refine g_callVi (ci := 7) (As := [.int a3]) (rest := []) C g_us hW hl.1 (c_X7_refusal l E S y10 a3 _ h13) rfl (if_so h12).1.1 (if_so h12).1.2.1 (if_so h12).1.2.2 k_RX10_101 rfl ⟨rfl, rfl⟩ ⟨Nat.le_of_ble_eq_true rfl, Nat.le_of_ble_eq_true rfl⟩ ⟨Nat.zero_le _, Nat.zero_le _⟩ _ rfl (Nat.le_of_ble_eq_true rfl) dX10_wires_41 (fun H locs hW => ?_)
        refine lv_istore (lv' := [(6, .int x14), (5, .ref (E.ad y10)), (0, .ref (E.ad 0)), (1, .int a1), (2, .int a2), (3, .int a3), (4, .int a4)]) hx hb dX10_wires_44 hl (by decide) rfl (fun ls hl => ?_)
        refine lv_iload hx hb dX10_wires_46 (lv_at hl 0 rfl) ?_
        refine lv_if_eq (tgt := 54) hx hb dX10_wires_48 (by decide) (fun c15 => ?_) (fun c15 => ?_)
        · replace hf := ift_ hf c15
          refine lv_aload hx hb dX10_wires_54 (lv_at hl 1 rfl) ?_
          refine lv_iload hx hb dX10_wires_56 (lv_at hl 6 rfl) ?_
          refine lv_aload_n hx hb dX10_wires_58 rfl (lv_at hl 2 rfl) ?_
          refine g_get (ci := 10) (k := 0) (val := .ref (E.ad 1)) C g_us hW rfl rfl rfl (in_sid _ rfl) (by decide) f_RX10_10 rfl dX10_wires_59 ?_
          refine g_get (ci := 1) (k := 0) (val := .ref (E.ad 2)) C g_us hW rfl rfl rfl (in_sid _ rfl) (by decide) f_RX10_62 rfl dX10_wires_62 ?_
          refine g_get (ci := 6) (k := 0) (val := .int (rI S 2 0)) C g_us hW rfl rfl rfl (in_sid _ rfl) (by decide) f_RX10_66 rfl dX10_wires_65 ?_
          replace hf := bd_so hf
          obtain ⟨_, h16, hf⟩ := hf
          replace hf := bd_so hf
          obtain ⟨x18, h17, hf⟩ := hf
          refine g_callVi (ci := 7) (As := [.int a4, .int (rI S 2 0)]) (rest := []) C g_us hW hl.1 (c_X7_holds l E S y10 a4 (rI S 2 0) _ h17) rfl (if_so h16).1.1 (if_so h16).1.2.1 (if_so h16).1.2.2 k_RX10_104 rfl ⟨rfl, rfl⟩ ⟨Nat.le_of_ble_eq_true rfl, Nat.le_of_ble_eq_true rfl⟩ ⟨Nat.zero_le _, Nat.zero_le _⟩ _ rfl (Nat.le_of_ble_eq_true rfl) dX10_wires_68 (fun H locs hW => ?_)
          refine lv_if_ne (tgt := 77) hx hb dX10_wires_71 (by decide) (fun c19 => ?_) (fun c19 => ?_)
          · replace hf := iff_ hf c19
            refine lv_aload_n hx hb dX10_wires_77 rfl (lv_at hl 2 rfl) ?_
            refine g_get (ci := 10) (k := 0) (val := .ref (E.ad 1)) C g_us hW rfl rfl rfl (in_sid _ rfl) (by decide) f_RX10_10 rfl dX10_wires_78 ?_
            refine g_get (ci := 1) (k := 0) (val := .ref (E.ad 2)) C g_us hW rfl rfl rfl (in_sid _ rfl) (by decide) f_RX10_62 rfl dX10_wires_81 ?_
            refine lv_iload_n hx hb dX10_wires_84 rfl (lv_at hl 3 rfl) ?_
            refine lv_aload hx hb dX10_wires_85 (lv_at hl 1 rfl) ?_
            refine lv_iload hx hb dX10_wires_87 (lv_at hl 6 rfl) ?_
            replace hf := bd_so hf
            obtain ⟨x21, h20, hf⟩ := hf
            refine g_callVi (ci := 6) (As := [.int a1, .ref (E.ad y10), .int a4]) (rest := []) C g_us hW hl.1 (c_X6_canLayAll l E S y10 a1 a4 _ h20) rfl rfl rfl (in_sid _ rfl) k_RX10_107 rfl ⟨rfl, rfl⟩ ⟨Nat.le_of_ble_eq_true rfl, Nat.le_of_ble_eq_true rfl⟩ ⟨Nat.zero_le _, Nat.zero_le _⟩ _ rfl (Nat.le_of_ble_eq_true rfl) dX10_wires_89 (fun H locs hW => ?_)
            refine lv_if_eq (tgt := 113) hx hb dX10_wires_92 (by decide) (fun c22 => ?_) (fun c22 => ?_)
            · replace hf := ift_ hf c22
              refine lv_bipush (v := (-2)) hx hb dX10_wires_113 (by decide) ?_
              obtain ⟨rfl, rfl⟩ := so2 hf
              exact kR _ _ _ _ hW dX10_wires_115
            · replace hf := iff_ hf c22
              refine lv_aload_n hx hb dX10_wires_95 rfl (lv_at hl 2 rfl) ?_
              refine g_get (ci := 10) (k := 0) (val := .ref (E.ad 1)) C g_us hW rfl rfl rfl (in_sid _ rfl) (by decide) f_RX10_10 rfl dX10_wires_96 ?_
              refine g_get (ci := 1) (k := 0) (val := .ref (E.ad 2)) C g_us hW rfl rfl rfl (in_sid _ rfl) (by decide) f_RX10_62 rfl dX10_wires_99 ?_
              refine lv_iload_n hx hb dX10_wires_102 rfl (lv_at hl 3 rfl) ?_
              refine lv_aload hx hb dX10_wires_103 (lv_at hl 1 rfl) ?_
              refine lv_iload hx hb dX10_wires_105 (lv_at hl 6 rfl) ?_
              replace hf := bd_so hf
              obtain ⟨⟨x24, S25⟩, h23, hf⟩ := hf
              dsimp only at hf
              refine g_callVi (ci := 6) (As := [.int a1, .ref (E.ad y10), .int a4]) (rest := []) C g_us hW hl.1 (c_X6_layAll l E S y10 a1 a4 _ _ h23) rfl rfl rfl (in_sid _ rfl) k_RX10_111 rfl ⟨rfl, rfl⟩ ⟨Nat.le_of_ble_eq_true rfl, Nat.le_of_ble_eq_true rfl⟩ ⟨Nat.zero_le _, Nat.zero_le _⟩ _ rfl (Nat.le_of_ble_eq_true rfl) dX10_wires_107 (fun H locs hW => ?_)
              refine lv_goto (tgt := 115) hx hb dX10_wires_110 (by decide) ?_
              obtain ⟨rfl, rfl⟩ := so2 hf
              exact kR _ _ _ _ hW dX10_wires_115
          · replace hf := ift_ hf c19
            refine lv_bipush (v := (-13)) hx hb dX10_wires_74 (by decide) ?_
            obtain ⟨rfl, rfl⟩ := so2 hf
            exact kR _ _ _ _ hW dX10_wires_76
        · replace hf := iff_ hf c15
          refine lv_iload hx hb dX10_wires_51 (lv_at hl 0 rfl) ?_
          obtain ⟨rfl, rfl⟩ := so2 hf
          exact kR _ _ _ _ hW dX10_wires_53
      · replace hf := ift_ hf c9
        refine lv_iconst (v := (-1)) hx hb dX10_wires_28 (by decide) ?_
        obtain ⟨rfl, rfl⟩ := so2 hf
        exact kR _ _ _ _ hW dX10_wires_29

abbrev rm_X10_pace : Room := { frames := 1, cells := 0, slots := 0, locals := 60 }
set_option maxHeartbeats 4000000 in
set_option maxRecDepth 100000 in
theorem c_X10_pace (l : Launch) (E : En) (S : St) (a1 : Int32) (r : Int32) (S1 : St) (hf : X10_pace S a1 = some (r, S1)) : Mi l E yX10_pace cX10_pace 3 (some .int) rm_X10_pace [.ref (E.ad 0), .int a1] S r S1 := by
  refine g_startI (cc := cX10_pace) (n := 3) (by decide) (Nat.le_of_ble_eq_true rfl) ?_
  intro p e s m args below meth c Q H locs C kR hW ls hl
  obtain ⟨⟨hx, hb, hml, hown, hts⟩, hK, hT⟩ := id C
  have hl : lv_has ls 3 [(0, .ref (E.ad 0)), (1, .int a1)] := hl
  unfold X10_pace at hf
  refine lv_iload_n hx hb dX10_pace_0 rfl (lv_at hl 1 rfl) ?_
  refine lv_iconst (v := 1) hx hb dX10_pace_1 (by decide) ?_
  refine lv_icmp_lt (tgt := 12) hx hb dX10_pace_2 (by decide) (fun c1 => ?_) (fun c1 => ?_)
  · replace hf := ift_ hf c1
    refine lv_iconst (v := (-1)) hx hb dX10_pace_12 (by decide) ?_
    obtain ⟨rfl, rfl⟩ := so2 hf
    exact kR _ _ _ _ hW dX10_pace_13
  · replace hf := iff_ hf c1
    refine lv_iload_n hx hb dX10_pace_5 rfl (lv_at hl 1 rfl) ?_
    refine lv_sipush (v := 2000) hx hb dX10_pace_6 (by decide) ?_
    refine lv_icmp_le (tgt := 14) hx hb dX10_pace_9 (by decide) (fun c2 => ?_) (fun c2 => ?_)
    · replace hf := ift_ hf c2
      refine lv_aload_n hx hb dX10_pace_14 rfl (lv_at hl 0 rfl) ?_
      refine g_get (ci := 10) (k := 0) (val := .ref (E.ad 1)) C g_us hW rfl rfl rfl (in_sid _ rfl) (by decide) f_RX10_10 rfl dX10_pace_15 ?_
      refine g_get (ci := 1) (k := 0) (val := .ref (E.ad 2)) C g_us hW rfl rfl rfl (in_sid _ rfl) (by decide) f_RX10_62 rfl dX10_pace_18 ?_
      refine g_get (ci := 6) (k := 1) (val := .int (rI S 2 1)) C g_us hW rfl rfl rfl (in_sid _ rfl) (by decide) f_RX10_115 rfl dX10_pace_21 ?_
      refine lv_istore_n (lv' := [(2, .int (rI S 2 1)), (0, .ref (E.ad 0)), (1, .int a1)]) hx hb dX10_pace_24 rfl hl (by decide) rfl (fun ls hl => ?_)
      refine lv_aload_n hx hb dX10_pace_25 rfl (lv_at hl 1 rfl) ?_
      refine g_get (ci := 10) (k := 0) (val := .ref (E.ad 1)) C g_us hW rfl rfl rfl (in_sid _ rfl) (by decide) f_RX10_10 rfl dX10_pace_26 ?_
      refine g_get (ci := 1) (k := 0) (val := .ref (E.ad 2)) C g_us hW rfl rfl rfl (in_sid _ rfl) (by decide) f_RX10_62 rfl dX10_pace_29 ?_
      refine lv_iload_n hx hb dX10_pace_32 rfl (lv_at hl 2 rfl) ?_
      replace hf := bd_so hf
      obtain ⟨S3, h4, hf⟩ := hf
      refine g_putI (ci := 6) (k := 1) C g_us hW rfl rfl rfl (in_sid _ rfl) (by decide) f_RX10_115 rfl rfl rfl h4 dX10_pace_33 (fun H locs hW => ?_)
      refine lv_iload_n hx hb dX10_pace_36 rfl (lv_at hl 0 rfl) ?_
      obtain ⟨rfl, rfl⟩ := so2 hf
      exact kR _ _ _ _ hW dX10_pace_37
    · replace hf := iff_ hf c2
      refine lv_iconst (v := (-1)) hx hb dX10_pace_12 (by decide) ?_
      obtain ⟨rfl, rfl⟩ := so2 hf
      exact kR _ _ _ _ hW dX10_pace_13

abbrev rm_X10_time : Room := { frames := 4, cells := 0, slots := 0, locals := 137 }
set_option maxHeartbeats 4000000 in
set_option maxRecDepth 100000 in
theorem c_X10_time (l : Launch) (E : En) (S : St) (a1 : Int32) (a2 : Int32) (r : Int32) (S1 : St) (hf : X10_time S a1 a2 = some (r, S1)) : Mi l E yX10_time cX10_time 3 (some .int) rm_X10_time [.ref (E.ad 0), .int a1, .int a2] S r S1 := by
  refine g_startI (cc := cX10_time) (n := 3) (by decide) (Nat.le_of_ble_eq_true rfl) ?_
  intro p e s m args below meth c Q H locs C kR hW ls hl
  obtain ⟨⟨hx, hb, hml, hown, hts⟩, hK, hT⟩ := id C
  have hl : lv_has ls 3 [(0, .ref (E.ad 0)), (1, .int a1), (2, .int a2)] := hl
  unfold X10_time at hf
  refine lv_aload_n hx hb dX10_time_0 rfl (lv_at hl 0 rfl) ?_
  refine g_get (ci := 10) (k := 0) (val := .ref (E.ad 1)) C g_us hW rfl rfl rfl (in_sid _ rfl) (by decide) f_RX10_10 rfl dX10_time_1 ?_
  refine g_get (ci := 1) (k := 0) (val := .ref (E.ad 2)) C g_us hW rfl rfl rfl (in_sid _ rfl) (by decide) f_RX10_62 rfl dX10_time_4 ?_
  refine lv_iload_n hx hb dX10_time_7 rfl (lv_at hl 1 rfl) ?_
  replace hf := bd_so hf
  obtain ⟨x2, h1, hf⟩ := hf
  refine g_callVi (ci := 6) (As := [.int a1]) (rest := []) C g_us hW hl.1 (c_X6_has l E S a1 _ h1) rfl rfl rfl (in_sid _ rfl) k_RX10_76 rfl ⟨rfl, rfl⟩ ⟨Nat.le_of_ble_eq_true rfl, Nat.le_of_ble_eq_true rfl⟩ ⟨Nat.zero_le _, Nat.zero_le _⟩ _ rfl (Nat.le_of_ble_eq_true rfl) dX10_time_8 (fun H locs hW => ?_)
  refine lv_if_eq (tgt := 24) hx hb dX10_time_11 (by decide) (fun c3 => ?_) (fun c3 => ?_)
  · replace hf := ift_ hf c3
    refine lv_ldc hx hb hown (hts _ (g_us _ q_RX10_118)) dX10_time_24 ?_
    obtain ⟨rfl, rfl⟩ := so2 hf
    exact kR _ _ _ _ hW dX10_time_26
  · replace hf := iff_ hf c3
    refine lv_iload_n hx hb dX10_time_14 rfl (lv_at hl 2 rfl) ?_
    refine lv_if_lt (tgt := 24) hx hb dX10_time_15 (by decide) (fun c4 => ?_) (fun c4 => ?_)
    · replace hf := ift_ hf c4
      refine lv_ldc hx hb hown (hts _ (g_us _ q_RX10_118)) dX10_time_24 ?_
      obtain ⟨rfl, rfl⟩ := so2 hf
      exact kR _ _ _ _ hW dX10_time_26
    · replace hf := iff_ hf c4
      refine lv_iload_n hx hb dX10_time_18 rfl (lv_at hl 2 rfl) ?_
      refine lv_bipush (v := 40) hx hb dX10_time_19 (by decide) ?_
      refine lv_icmp_le (tgt := 27) hx hb dX10_time_21 (by decide) (fun c5 => ?_) (fun c5 => ?_)
      · replace hf := ift_ hf c5
        refine lv_aload_n hx hb dX10_time_27 rfl (lv_at hl 0 rfl) ?_
        refine g_get (ci := 10) (k := 0) (val := .ref (E.ad 1)) C g_us hW rfl rfl rfl (in_sid _ rfl) (by decide) f_RX10_10 rfl dX10_time_28 ?_
        refine g_get (ci := 1) (k := 0) (val := .ref (E.ad 2)) C g_us hW rfl rfl rfl (in_sid _ rfl) (by decide) f_RX10_62 rfl dX10_time_31 ?_
        refine lv_iload_n hx hb dX10_time_34 rfl (lv_at hl 1 rfl) ?_
        replace hf := bd_so hf
        obtain ⟨x7, h6, hf⟩ := hf
        refine g_callVi (ci := 6) (As := [.int a1]) (rest := []) C g_us hW hl.1 (c_X6_sings l E S a1 _ h6) rfl rfl rfl (in_sid _ rfl) k_RX10_119 rfl ⟨rfl, rfl⟩ ⟨Nat.le_of_ble_eq_true rfl, Nat.le_of_ble_eq_true rfl⟩ ⟨Nat.zero_le _, Nat.zero_le _⟩ _ rfl (Nat.le_of_ble_eq_true rfl) dX10_time_35 (fun H locs hW => ?_)
        refine lv_if_ne (tgt := 44) hx hb dX10_time_38 (by decide) (fun c8 => ?_) (fun c8 => ?_)
        · replace hf := iff_ hf c8
          refine lv_aload_n hx hb dX10_time_44 rfl (lv_at hl 0 rfl) ?_
          refine g_get (ci := 10) (k := 4) (val := .ref (E.ad 24)) C g_us hW rfl rfl rfl (in_sid _ rfl) (by decide) f_RX10_37 rfl dX10_time_45 ?_
          refine lv_aload_n hx hb dX10_time_48 rfl (lv_at hl 0 rfl) ?_
          refine g_get (ci := 10) (k := 0) (val := .ref (E.ad 1)) C g_us hW rfl rfl rfl (in_sid _ rfl) (by decide) f_RX10_10 rfl dX10_time_49 ?_
          refine g_get (ci := 1) (k := 0) (val := .ref (E.ad 2)) C g_us hW rfl rfl rfl (in_sid _ rfl) (by decide) f_RX10_62 rfl dX10_time_52 ?_
          replace hf := bd_so hf
          obtain ⟨S10, h9, hf⟩ := hf
          refine g_callVv (ci := 0) (As := [.ref (E.ad 2)]) (rest := []) C g_us hW hl.1 (c_X0_listen l E S  _ h9) rfl rfl rfl (in_sid _ rfl) k_RX10_123 rfl ⟨rfl, rfl⟩ ⟨Nat.le_of_ble_eq_true rfl, Nat.le_of_ble_eq_true rfl⟩ ⟨Nat.zero_le _, Nat.zero_le _⟩ _ rfl (Nat.le_of_ble_eq_true rfl) dX10_time_55 (fun H locs hW => ?_)
          refine lv_aload_n hx hb dX10_time_58 rfl (lv_at hl 0 rfl) ?_
          refine g_get (ci := 10) (k := 4) (val := .ref (E.ad 24)) C g_us hW rfl rfl rfl (in_sid _ rfl) (by decide) f_RX10_37 rfl dX10_time_59 ?_
          refine lv_aload_n hx hb dX10_time_62 rfl (lv_at hl 0 rfl) ?_
          refine g_get (ci := 10) (k := 0) (val := .ref (E.ad 1)) C g_us hW rfl rfl rfl (in_sid _ rfl) (by decide) f_RX10_10 rfl dX10_time_63 ?_
          refine g_get (ci := 1) (k := 0) (val := .ref (E.ad 2)) C g_us hW rfl rfl rfl (in_sid _ rfl) (by decide) f_RX10_62 rfl dX10_time_66 ?_
          refine lv_iload_n hx hb dX10_time_69 rfl (lv_at hl 2 rfl) ?_
          replace hf := bd_so hf
          obtain ⟨S12, h11, hf⟩ := hf
          refine g_callVv (ci := 0) (As := [.ref (E.ad 2), .int a2]) (rest := []) C g_us hW hl.1 (c_X0_singTo l E S10 a2 _ h11) rfl rfl rfl (in_sid _ rfl) k_RX10_127 rfl ⟨rfl, rfl⟩ ⟨Nat.le_of_ble_eq_true rfl, Nat.le_of_ble_eq_true rfl⟩ ⟨Nat.zero_le _, Nat.zero_le _⟩ _ rfl (Nat.le_of_ble_eq_true rfl) dX10_time_70 (fun H locs hW => ?_)
          refine lv_aload_n hx hb dX10_time_73 rfl (lv_at hl 0 rfl) ?_
          refine g_get (ci := 10) (k := 4) (val := .ref (E.ad 24)) C g_us hW rfl rfl rfl (in_sid _ rfl) (by decide) f_RX10_37 rfl dX10_time_74 ?_
          refine lv_iload_n hx hb dX10_time_77 rfl (lv_at hl 1 rfl) ?_
          replace hf := bd_so hf
          obtain ⟨x14, h13, hf⟩ := hf
          refine g_callVi (ci := 0) (As := [.int a1]) (rest := []) C g_us hW hl.1 (c_X0_timeOf l E S12 a1 _ h13) rfl rfl rfl (in_sid _ rfl) k_RX10_131 rfl ⟨rfl, rfl⟩ ⟨Nat.le_of_ble_eq_true rfl, Nat.le_of_ble_eq_true rfl⟩ ⟨Nat.zero_le _, Nat.zero_le _⟩ _ rfl (Nat.le_of_ble_eq_true rfl) dX10_time_78 (fun H locs hW => ?_)
          obtain ⟨rfl, rfl⟩ := so2 hf
          exact kR _ _ _ _ hW dX10_time_81
        · replace hf := ift_ hf c8
          refine lv_ldc hx hb hown (hts _ (g_us _ q_RX10_122)) dX10_time_41 ?_
          obtain ⟨rfl, rfl⟩ := so2 hf
          exact kR _ _ _ _ hW dX10_time_43
      · replace hf := iff_ hf c5
        refine lv_ldc hx hb hown (hts _ (g_us _ q_RX10_118)) dX10_time_24 ?_
        obtain ⟨rfl, rfl⟩ := so2 hf
        exact kR _ _ _ _ hW dX10_time_26

abbrev rm_X10_paceAt : Room := { frames := 4, cells := 0, slots := 0, locals := 137 }
set_option maxHeartbeats 4000000 in
set_option maxRecDepth 100000 in
theorem c_X10_paceAt (l : Launch) (E : En) (S : St) (a1 : Int32) (r : Int32) (S1 : St) (hf : X10_paceAt S a1 = some (r, S1)) : Mi l E yX10_paceAt cX10_paceAt 2 (some .int) rm_X10_paceAt [.ref (E.ad 0), .int a1] S r S1 := by
  refine g_startI (cc := cX10_paceAt) (n := 2) (by decide) (Nat.le_of_ble_eq_true rfl) ?_
  intro p e s m args below meth c Q H locs C kR hW ls hl
  obtain ⟨⟨hx, hb, hml, hown, hts⟩, hK, hT⟩ := id C
  have hl : lv_has ls 2 [(0, .ref (E.ad 0)), (1, .int a1)] := hl
  unfold X10_paceAt at hf
  refine lv_iload_n hx hb dX10_paceAt_0 rfl (lv_at hl 1 rfl) ?_
  refine lv_iconst (v := 1) hx hb dX10_paceAt_1 (by decide) ?_
  refine lv_icmp_lt (tgt := 11) hx hb dX10_paceAt_2 (by decide) (fun c1 => ?_) (fun c1 => ?_)
  · replace hf := ift_ hf c1
    refine lv_iconst (v := (-1)) hx hb dX10_paceAt_11 (by decide) ?_
    obtain ⟨rfl, rfl⟩ := so2 hf
    exact kR _ _ _ _ hW dX10_paceAt_12
  · replace hf := iff_ hf c1
    refine lv_iload_n hx hb dX10_paceAt_5 rfl (lv_at hl 1 rfl) ?_
    refine lv_bipush (v := 40) hx hb dX10_paceAt_6 (by decide) ?_
    refine lv_icmp_le (tgt := 13) hx hb dX10_paceAt_8 (by decide) (fun c2 => ?_) (fun c2 => ?_)
    · replace hf := ift_ hf c2
      refine lv_aload_n hx hb dX10_paceAt_13 rfl (lv_at hl 0 rfl) ?_
      refine g_get (ci := 10) (k := 0) (val := .ref (E.ad 1)) C g_us hW rfl rfl rfl (in_sid _ rfl) (by decide) f_RX10_10 rfl dX10_paceAt_14 ?_
      refine g_get (ci := 1) (k := 0) (val := .ref (E.ad 2)) C g_us hW rfl rfl rfl (in_sid _ rfl) (by decide) f_RX10_62 rfl dX10_paceAt_17 ?_
      replace hf := bd_so hf
      obtain ⟨x4, h3, hf⟩ := hf
      refine g_callVi (ci := 6) (As := []) (rest := []) C g_us hW hl.1 (c_X6_singers l E S  _ h3) rfl rfl rfl (in_sid _ rfl) k_RX10_134 rfl ⟨rfl, rfl⟩ ⟨Nat.le_of_ble_eq_true rfl, Nat.le_of_ble_eq_true rfl⟩ ⟨Nat.zero_le _, Nat.zero_le _⟩ _ rfl (Nat.le_of_ble_eq_true rfl) dX10_paceAt_20 (fun H locs hW => ?_)
      refine lv_if_ne (tgt := 29) hx hb dX10_paceAt_23 (by decide) (fun c5 => ?_) (fun c5 => ?_)
      · replace hf := iff_ hf c5
        refine lv_aload_n hx hb dX10_paceAt_29 rfl (lv_at hl 0 rfl) ?_
        refine g_get (ci := 10) (k := 4) (val := .ref (E.ad 24)) C g_us hW rfl rfl rfl (in_sid _ rfl) (by decide) f_RX10_37 rfl dX10_paceAt_30 ?_
        refine lv_aload_n hx hb dX10_paceAt_33 rfl (lv_at hl 0 rfl) ?_
        refine g_get (ci := 10) (k := 0) (val := .ref (E.ad 1)) C g_us hW rfl rfl rfl (in_sid _ rfl) (by decide) f_RX10_10 rfl dX10_paceAt_34 ?_
        refine g_get (ci := 1) (k := 0) (val := .ref (E.ad 2)) C g_us hW rfl rfl rfl (in_sid _ rfl) (by decide) f_RX10_62 rfl dX10_paceAt_37 ?_
        replace hf := bd_so hf
        obtain ⟨S7, h6, hf⟩ := hf
        refine g_callVv (ci := 0) (As := [.ref (E.ad 2)]) (rest := []) C g_us hW hl.1 (c_X0_listen l E S  _ h6) rfl rfl rfl (in_sid _ rfl) k_RX10_123 rfl ⟨rfl, rfl⟩ ⟨Nat.le_of_ble_eq_true rfl, Nat.le_of_ble_eq_true rfl⟩ ⟨Nat.zero_le _, Nat.zero_le _⟩ _ rfl (Nat.le_of_ble_eq_true rfl) dX10_paceAt_40 (fun H locs hW => ?_)
        refine lv_aload_n hx hb dX10_paceAt_43 rfl (lv_at hl 0 rfl) ?_
        refine g_get (ci := 10) (k := 4) (val := .ref (E.ad 24)) C g_us hW rfl rfl rfl (in_sid _ rfl) (by decide) f_RX10_37 rfl dX10_paceAt_44 ?_
        refine lv_aload_n hx hb dX10_paceAt_47 rfl (lv_at hl 0 rfl) ?_
        refine g_get (ci := 10) (k := 0) (val := .ref (E.ad 1)) C g_us hW rfl rfl rfl (in_sid _ rfl) (by decide) f_RX10_10 rfl dX10_paceAt_48 ?_
        refine g_get (ci := 1) (k := 0) (val := .ref (E.ad 2)) C g_us hW rfl rfl rfl (in_sid _ rfl) (by decide) f_RX10_62 rfl dX10_paceAt_51 ?_
        refine lv_iload_n hx hb dX10_paceAt_54 rfl (lv_at hl 1 rfl) ?_
        replace hf := bd_so hf
        obtain ⟨S9, h8, hf⟩ := hf
        refine g_callVv (ci := 0) (As := [.ref (E.ad 2), .int a1]) (rest := []) C g_us hW hl.1 (c_X0_singTo l E S7 a1 _ h8) rfl rfl rfl (in_sid _ rfl) k_RX10_127 rfl ⟨rfl, rfl⟩ ⟨Nat.le_of_ble_eq_true rfl, Nat.le_of_ble_eq_true rfl⟩ ⟨Nat.zero_le _, Nat.zero_le _⟩ _ rfl (Nat.le_of_ble_eq_true rfl) dX10_paceAt_55 (fun H locs hW => ?_)
        refine lv_aload_n hx hb dX10_paceAt_58 rfl (lv_at hl 0 rfl) ?_
        refine g_get (ci := 10) (k := 4) (val := .ref (E.ad 24)) C g_us hW rfl rfl rfl (in_sid _ rfl) (by decide) f_RX10_37 rfl dX10_paceAt_59 ?_
        refine lv_aload_n hx hb dX10_paceAt_62 rfl (lv_at hl 0 rfl) ?_
        refine g_get (ci := 10) (k := 0) (val := .ref (E.ad 1)) C g_us hW rfl rfl rfl (in_sid _ rfl) (by decide) f_RX10_10 rfl dX10_paceAt_63 ?_
        refine g_get (ci := 1) (k := 0) (val := .ref (E.ad 2)) C g_us hW rfl rfl rfl (in_sid _ rfl) (by decide) f_RX10_62 rfl dX10_paceAt_66 ?_
        replace hf := bd_so hf
        obtain ⟨x11, h10, hf⟩ := hf
        refine g_callVi (ci := 0) (As := [.ref (E.ad 2)]) (rest := []) C g_us hW hl.1 (c_X0_meanPace l E S9  _ h10) rfl rfl rfl (in_sid _ rfl) k_RX10_138 rfl ⟨rfl, rfl⟩ ⟨Nat.le_of_ble_eq_true rfl, Nat.le_of_ble_eq_true rfl⟩ ⟨Nat.zero_le _, Nat.zero_le _⟩ _ rfl (Nat.le_of_ble_eq_true rfl) dX10_paceAt_69 (fun H locs hW => ?_)
        obtain ⟨rfl, rfl⟩ := so2 hf
        exact kR _ _ _ _ hW dX10_paceAt_72
      · replace hf := ift_ hf c5
        refine lv_bipush (v := (-4)) hx hb dX10_paceAt_26 (by decide) ?_
        obtain ⟨rfl, rfl⟩ := so2 hf
        exact kR _ _ _ _ hW dX10_paceAt_28
    · replace hf := iff_ hf c2
      refine lv_iconst (v := (-1)) hx hb dX10_paceAt_11 (by decide) ?_
      obtain ⟨rfl, rfl⟩ := so2 hf
      exact kR _ _ _ _ hW dX10_paceAt_12

abbrev rm_X10_slows : Room := { frames := 4, cells := 0, slots := 0, locals := 137 }
set_option maxHeartbeats 4000000 in
set_option maxRecDepth 100000 in
theorem c_X10_slows (l : Launch) (E : En) (S : St) (a1 : Int32) (a2 : Int32) (r : Int32) (S1 : St) (hf : X10_slows S a1 a2 = some (r, S1)) : Mi l E yX10_slows cX10_slows 4 (some .int) rm_X10_slows [.ref (E.ad 0), .int a1, .int a2] S r S1 := by
  refine g_startI (cc := cX10_slows) (n := 4) (by decide) (Nat.le_of_ble_eq_true rfl) ?_
  intro p e s m args below meth c Q H locs C kR hW ls hl
  obtain ⟨⟨hx, hb, hml, hown, hts⟩, hK, hT⟩ := id C
  have hl : lv_has ls 4 [(0, .ref (E.ad 0)), (1, .int a1), (2, .int a2)] := hl
  have X10_slows_L55_c : ∀ (v1 : Int32) (v2 : Int32) (res : (St) ⊕ (Int32 × St)) (n : Nat) (v3 : Int32) (S : St) (H : Heap) (locs : List Loc) (ls : Array Slot), Ww E S s H locs → lv_has ls 4 [(0, .ref (E.ad 0)), (1, .int v1), (2, .int v2), (3, .int v3)] → X10_slows_L55 v1 v2 n v3 S = some res → (∀ (T : St) (H : Heap) (locs : List Loc) (ls : Array Slot), some (.inl T) = some res → Ww E T s H locs → lv_has ls 4 [] → W p l e rm_X10_slows s m args below meth c H locs 0 0 Q (F0 m 118 ls [])) → (∀ (r0 : Int32) (T : St) (H : Heap) (locs : List Loc) (pc : Nat) (ls : Array Slot), some (.inr (r0, T)) = some res → Ww E T s H locs → decode cX10_slows pc = .ok (.ireturn, 1) → W p l e rm_X10_slows s m args below meth c H locs 0 0 Q (F0 m pc ls [.int r0])) → W p l e rm_X10_slows s m args below meth c H locs 0 0 Q (F0 m 55 ls []) := by
    intro v1 v2 res n
    induction n with
    | zero =>
      intro v3 S H locs ls hW hl hf
      cases hf
    | succ n ih =>
      intro v3 S H locs ls hW hl hf kE kR
      unfold X10_slows_L55 at hf
      refine lv_iload_n hx hb dX10_slows_55 rfl (lv_at hl 3 rfl) ?_
      refine lv_sipush (v := 400) hx hb dX10_slows_56 (by decide) ?_
      refine lv_icmp_gt (tgt := 118) hx hb dX10_slows_59 (by decide) (fun c10 => ?_) (fun c10 => ?_)
      · replace hf := ift_ hf c10
        exact kE _ _ _ _ hf hW (lv_sub hl [] rfl)
      · replace hf := iff_ hf c10
        refine lv_aload_n hx hb dX10_slows_62 rfl (lv_at hl 0 rfl) ?_
        refine g_get (ci := 10) (k := 4) (val := .ref (E.ad 24)) C g_us hW rfl rfl rfl (in_sid _ rfl) (by decide) f_RX10_37 rfl dX10_slows_63 ?_
        refine lv_aload_n hx hb dX10_slows_66 rfl (lv_at hl 0 rfl) ?_
        refine g_get (ci := 10) (k := 0) (val := .ref (E.ad 1)) C g_us hW rfl rfl rfl (in_sid _ rfl) (by decide) f_RX10_10 rfl dX10_slows_67 ?_
        refine g_get (ci := 1) (k := 0) (val := .ref (E.ad 2)) C g_us hW rfl rfl rfl (in_sid _ rfl) (by decide) f_RX10_62 rfl dX10_slows_70 ?_
        refine lv_iload_n hx hb dX10_slows_73 rfl (lv_at hl 3 rfl) ?_
        replace hf := bd_so hf
        obtain ⟨S12, h11, hf⟩ := hf
        refine g_callVv (ci := 0) (As := [.ref (E.ad 2), .int v3]) (rest := []) C g_us hW hl.1 (c_X0_stretchWires l E S v3 _ h11) rfl rfl rfl (in_sid _ rfl) k_RX10_143 rfl ⟨rfl, rfl⟩ ⟨Nat.le_of_ble_eq_true rfl, Nat.le_of_ble_eq_true rfl⟩ ⟨Nat.zero_le _, Nat.zero_le _⟩ _ rfl (Nat.le_of_ble_eq_true rfl) dX10_slows_74 (fun H locs hW => ?_)
        refine lv_aload_n hx hb dX10_slows_77 rfl (lv_at hl 0 rfl) ?_
        refine g_get (ci := 10) (k := 4) (val := .ref (E.ad 24)) C g_us hW rfl rfl rfl (in_sid _ rfl) (by decide) f_RX10_37 rfl dX10_slows_78 ?_
        refine lv_aload_n hx hb dX10_slows_81 rfl (lv_at hl 0 rfl) ?_
        refine g_get (ci := 10) (k := 0) (val := .ref (E.ad 1)) C g_us hW rfl rfl rfl (in_sid _ rfl) (by decide) f_RX10_10 rfl dX10_slows_82 ?_
        refine g_get (ci := 1) (k := 0) (val := .ref (E.ad 2)) C g_us hW rfl rfl rfl (in_sid _ rfl) (by decide) f_RX10_62 rfl dX10_slows_85 ?_
        refine lv_iload_n hx hb dX10_slows_88 rfl (lv_at hl 1 rfl) ?_
        replace hf := bd_so hf
        obtain ⟨S14, h13, hf⟩ := hf
        refine g_callVv (ci := 0) (As := [.ref (E.ad 2), .int v1]) (rest := []) C g_us hW hl.1 (c_X0_singTo l E S12 v1 _ h13) rfl rfl rfl (in_sid _ rfl) k_RX10_127 rfl ⟨rfl, rfl⟩ ⟨Nat.le_of_ble_eq_true rfl, Nat.le_of_ble_eq_true rfl⟩ ⟨Nat.zero_le _, Nat.zero_le _⟩ _ rfl (Nat.le_of_ble_eq_true rfl) dX10_slows_89 (fun H locs hW => ?_)
        refine lv_aload_n hx hb dX10_slows_92 rfl (lv_at hl 0 rfl) ?_
        refine g_get (ci := 10) (k := 4) (val := .ref (E.ad 24)) C g_us hW rfl rfl rfl (in_sid _ rfl) (by decide) f_RX10_37 rfl dX10_slows_93 ?_
        refine lv_aload_n hx hb dX10_slows_96 rfl (lv_at hl 0 rfl) ?_
        refine g_get (ci := 10) (k := 0) (val := .ref (E.ad 1)) C g_us hW rfl rfl rfl (in_sid _ rfl) (by decide) f_RX10_10 rfl dX10_slows_97 ?_
        refine g_get (ci := 1) (k := 0) (val := .ref (E.ad 2)) C g_us hW rfl rfl rfl (in_sid _ rfl) (by decide) f_RX10_62 rfl dX10_slows_100 ?_
        replace hf := bd_so hf
        obtain ⟨x16, h15, hf⟩ := hf
        refine g_callVi (ci := 0) (As := [.ref (E.ad 2)]) (rest := []) C g_us hW hl.1 (c_X0_meanPace l E S14  _ h15) rfl rfl rfl (in_sid _ rfl) k_RX10_138 rfl ⟨rfl, rfl⟩ ⟨Nat.le_of_ble_eq_true rfl, Nat.le_of_ble_eq_true rfl⟩ ⟨Nat.zero_le _, Nat.zero_le _⟩ _ rfl (Nat.le_of_ble_eq_true rfl) dX10_slows_103 (fun H locs hW => ?_)
        refine lv_iload_n hx hb dX10_slows_106 rfl (lv_at hl 2 rfl) ?_
        refine lv_icmp_le (tgt := 112) hx hb dX10_slows_107 (by decide) (fun c17 => ?_) (fun c17 => ?_)
        · replace hf := ift_ hf c17
          refine lv_iinc (v := (v3 + 1)) (lv' := [(3, .int (v3 + 1)), (0, .ref (E.ad 0)), (1, .int v1), (2, .int v2)]) hx hb dX10_slows_112 hl (k := 3) rfl rfl (by decide) rfl (fun ls hl => ?_)
          refine lv_goto (tgt := 55) hx hb dX10_slows_115 (by decide) ?_
          exact ih _ _ _ _ _ hW (lv_sub hl [1, 2, 3, 0] rfl) hf kE kR
        · replace hf := iff_ hf c17
          refine lv_iload_n hx hb dX10_slows_110 rfl (lv_at hl 3 rfl) ?_
          exact kR _ _ _ _ _ _ hf hW dX10_slows_111
  unfold X10_slows at hf
  refine lv_iload_n hx hb dX10_slows_0 rfl (lv_at hl 1 rfl) ?_
  refine lv_iconst (v := 1) hx hb dX10_slows_1 (by decide) ?_
  refine lv_icmp_lt (tgt := 21) hx hb dX10_slows_2 (by decide) (fun c1 => ?_) (fun c1 => ?_)
  · replace hf := ift_ hf c1
    refine lv_iconst (v := (-1)) hx hb dX10_slows_21 (by decide) ?_
    obtain ⟨rfl, rfl⟩ := so2 hf
    exact kR _ _ _ _ hW dX10_slows_22
  · replace hf := iff_ hf c1
    refine lv_iload_n hx hb dX10_slows_5 rfl (lv_at hl 1 rfl) ?_
    refine lv_bipush (v := 40) hx hb dX10_slows_6 (by decide) ?_
    refine lv_icmp_gt (tgt := 21) hx hb dX10_slows_8 (by decide) (fun c2 => ?_) (fun c2 => ?_)
    · replace hf := ift_ hf c2
      refine lv_iconst (v := (-1)) hx hb dX10_slows_21 (by decide) ?_
      obtain ⟨rfl, rfl⟩ := so2 hf
      exact kR _ _ _ _ hW dX10_slows_22
    · replace hf := iff_ hf c2
      refine lv_iload_n hx hb dX10_slows_11 rfl (lv_at hl 2 rfl) ?_
      refine lv_if_lt (tgt := 21) hx hb dX10_slows_12 (by decide) (fun c3 => ?_) (fun c3 => ?_)
      · replace hf := ift_ hf c3
        refine lv_iconst (v := (-1)) hx hb dX10_slows_21 (by decide) ?_
        obtain ⟨rfl, rfl⟩ := so2 hf
        exact kR _ _ _ _ hW dX10_slows_22
      · replace hf := iff_ hf c3
        refine lv_iload_n hx hb dX10_slows_15 rfl (lv_at hl 2 rfl) ?_
        refine lv_ldc hx hb hown (hts _ (g_us _ q_RX10_142)) dX10_slows_16 ?_
        refine lv_icmp_le (tgt := 23) hx hb dX10_slows_18 (by decide) (fun c4 => ?_) (fun c4 => ?_)
        · replace hf := ift_ hf c4
          refine lv_aload_n hx hb dX10_slows_23 rfl (lv_at hl 0 rfl) ?_
          refine g_get (ci := 10) (k := 0) (val := .ref (E.ad 1)) C g_us hW rfl rfl rfl (in_sid _ rfl) (by decide) f_RX10_10 rfl dX10_slows_24 ?_
          refine g_get (ci := 1) (k := 0) (val := .ref (E.ad 2)) C g_us hW rfl rfl rfl (in_sid _ rfl) (by decide) f_RX10_62 rfl dX10_slows_27 ?_
          replace hf := bd_so hf
          obtain ⟨x6, h5, hf⟩ := hf
          refine g_callVi (ci := 6) (As := []) (rest := []) C g_us hW hl.1 (c_X6_singers l E S  _ h5) rfl rfl rfl (in_sid _ rfl) k_RX10_134 rfl ⟨rfl, rfl⟩ ⟨Nat.le_of_ble_eq_true rfl, Nat.le_of_ble_eq_true rfl⟩ ⟨Nat.zero_le _, Nat.zero_le _⟩ _ rfl (Nat.le_of_ble_eq_true rfl) dX10_slows_30 (fun H locs hW => ?_)
          refine lv_if_ne (tgt := 39) hx hb dX10_slows_33 (by decide) (fun c7 => ?_) (fun c7 => ?_)
          · replace hf := iff_ hf c7
            refine lv_aload_n hx hb dX10_slows_39 rfl (lv_at hl 0 rfl) ?_
            refine g_get (ci := 10) (k := 4) (val := .ref (E.ad 24)) C g_us hW rfl rfl rfl (in_sid _ rfl) (by decide) f_RX10_37 rfl dX10_slows_40 ?_
            refine lv_aload_n hx hb dX10_slows_43 rfl (lv_at hl 0 rfl) ?_
            refine g_get (ci := 10) (k := 0) (val := .ref (E.ad 1)) C g_us hW rfl rfl rfl (in_sid _ rfl) (by decide) f_RX10_10 rfl dX10_slows_44 ?_
            refine g_get (ci := 1) (k := 0) (val := .ref (E.ad 2)) C g_us hW rfl rfl rfl (in_sid _ rfl) (by decide) f_RX10_62 rfl dX10_slows_47 ?_
            replace hf := bd_so hf
            obtain ⟨S9, h8, hf⟩ := hf
            refine g_callVv (ci := 0) (As := [.ref (E.ad 2)]) (rest := []) C g_us hW hl.1 (c_X0_listen l E S  _ h8) rfl rfl rfl (in_sid _ rfl) k_RX10_123 rfl ⟨rfl, rfl⟩ ⟨Nat.le_of_ble_eq_true rfl, Nat.le_of_ble_eq_true rfl⟩ ⟨Nat.zero_le _, Nat.zero_le _⟩ _ rfl (Nat.le_of_ble_eq_true rfl) dX10_slows_50 (fun H locs hW => ?_)
            refine lv_iconst (v := 1) hx hb dX10_slows_53 (by decide) ?_
            refine lv_istore_n (lv' := [(3, .int 1), (0, .ref (E.ad 0)), (1, .int a1), (2, .int a2)]) hx hb dX10_slows_54 rfl hl (by decide) rfl (fun ls hl => ?_)
            replace hf := bd_so hf
            obtain ⟨t, h19, hf⟩ := hf
            rcases t with S18 | ⟨x21, S22⟩
            · dsimp only at hf
              have J20 : ∀ (H : Heap) (locs : List Loc) (ls : Array Slot), Ww E S18 s H locs → lv_has ls 4 [] → W p l e rm_X10_slows s m args below meth c H locs 0 0 Q (F0 m 118 ls []) := by
                intro H locs ls hW hl
                refine lv_bipush (v := (-4)) hx hb dX10_slows_118 (by decide) ?_
                obtain ⟨rfl, rfl⟩ := so2 hf
                exact kR _ _ _ _ hW dX10_slows_120
              exact X10_slows_L55_c _ _ _ FU _ _ _ _ _ hW (lv_sub hl [1, 2, 3, 0] rfl) h19 (fun _ H locs ls e hW hl => by cases e; exact J20 H locs ls hW hl) (fun _ _ H locs pc ls e hW dd => by cases e)
            · dsimp only at hf
              refine X10_slows_L55_c _ _ _ FU _ _ _ _ _ hW (lv_sub hl [1, 2, 3, 0] rfl) h19 (fun _ H locs ls e hW hl => by cases e) (fun _ _ H locs pc ls e hW dd => ?_)
              cases e
              obtain ⟨rfl, rfl⟩ := so2 hf
              exact kR _ _ _ _ hW dd
          · replace hf := ift_ hf c7
            refine lv_bipush (v := (-4)) hx hb dX10_slows_36 (by decide) ?_
            obtain ⟨rfl, rfl⟩ := so2 hf
            exact kR _ _ _ _ hW dX10_slows_38
        · replace hf := iff_ hf c4
          refine lv_iconst (v := (-1)) hx hb dX10_slows_21 (by decide) ?_
          obtain ⟨rfl, rfl⟩ := so2 hf
          exact kR _ _ _ _ hW dX10_slows_22

abbrev rm_X10_apart : Room := { frames := 4, cells := 0, slots := 0, locals := 137 }
set_option maxHeartbeats 4000000 in
set_option maxRecDepth 100000 in
theorem c_X10_apart (l : Launch) (E : En) (S : St) (a1 : Int32) (r : Int32) (S1 : St) (hf : X10_apart S a1 = some (r, S1)) : Mi l E yX10_apart cX10_apart 2 (some .int) rm_X10_apart [.ref (E.ad 0), .int a1] S r S1 := by
  refine g_startI (cc := cX10_apart) (n := 2) (by decide) (Nat.le_of_ble_eq_true rfl) ?_
  intro p e s m args below meth c Q H locs C kR hW ls hl
  obtain ⟨⟨hx, hb, hml, hown, hts⟩, hK, hT⟩ := id C
  have hl : lv_has ls 2 [(0, .ref (E.ad 0)), (1, .int a1)] := hl
  unfold X10_apart at hf
  refine lv_iload_n hx hb dX10_apart_0 rfl (lv_at hl 1 rfl) ?_
  refine lv_if_lt (tgt := 10) hx hb dX10_apart_1 (by decide) (fun c1 => ?_) (fun c1 => ?_)
  · replace hf := ift_ hf c1
    refine lv_iconst (v := (-1)) hx hb dX10_apart_10 (by decide) ?_
    obtain ⟨rfl, rfl⟩ := so2 hf
    exact kR _ _ _ _ hW dX10_apart_11
  · replace hf := iff_ hf c1
    refine lv_iload_n hx hb dX10_apart_4 rfl (lv_at hl 1 rfl) ?_
    refine lv_bipush (v := 40) hx hb dX10_apart_5 (by decide) ?_
    refine lv_icmp_le (tgt := 12) hx hb dX10_apart_7 (by decide) (fun c2 => ?_) (fun c2 => ?_)
    · replace hf := ift_ hf c2
      refine lv_aload_n hx hb dX10_apart_12 rfl (lv_at hl 0 rfl) ?_
      refine g_get (ci := 10) (k := 0) (val := .ref (E.ad 1)) C g_us hW rfl rfl rfl (in_sid _ rfl) (by decide) f_RX10_10 rfl dX10_apart_13 ?_
      refine g_get (ci := 1) (k := 0) (val := .ref (E.ad 2)) C g_us hW rfl rfl rfl (in_sid _ rfl) (by decide) f_RX10_62 rfl dX10_apart_16 ?_
      replace hf := bd_so hf
      obtain ⟨x4, h3, hf⟩ := hf
      refine g_callVi (ci := 6) (As := []) (rest := []) C g_us hW hl.1 (c_X6_singers l E S  _ h3) rfl rfl rfl (in_sid _ rfl) k_RX10_134 rfl ⟨rfl, rfl⟩ ⟨Nat.le_of_ble_eq_true rfl, Nat.le_of_ble_eq_true rfl⟩ ⟨Nat.zero_le _, Nat.zero_le _⟩ _ rfl (Nat.le_of_ble_eq_true rfl) dX10_apart_19 (fun H locs hW => ?_)
      refine lv_if_ne (tgt := 28) hx hb dX10_apart_22 (by decide) (fun c5 => ?_) (fun c5 => ?_)
      · replace hf := iff_ hf c5
        refine lv_aload_n hx hb dX10_apart_28 rfl (lv_at hl 0 rfl) ?_
        refine g_get (ci := 10) (k := 4) (val := .ref (E.ad 24)) C g_us hW rfl rfl rfl (in_sid _ rfl) (by decide) f_RX10_37 rfl dX10_apart_29 ?_
        refine lv_aload_n hx hb dX10_apart_32 rfl (lv_at hl 0 rfl) ?_
        refine g_get (ci := 10) (k := 0) (val := .ref (E.ad 1)) C g_us hW rfl rfl rfl (in_sid _ rfl) (by decide) f_RX10_10 rfl dX10_apart_33 ?_
        refine g_get (ci := 1) (k := 0) (val := .ref (E.ad 2)) C g_us hW rfl rfl rfl (in_sid _ rfl) (by decide) f_RX10_62 rfl dX10_apart_36 ?_
        replace hf := bd_so hf
        obtain ⟨S7, h6, hf⟩ := hf
        refine g_callVv (ci := 0) (As := [.ref (E.ad 2)]) (rest := []) C g_us hW hl.1 (c_X0_listen l E S  _ h6) rfl rfl rfl (in_sid _ rfl) k_RX10_123 rfl ⟨rfl, rfl⟩ ⟨Nat.le_of_ble_eq_true rfl, Nat.le_of_ble_eq_true rfl⟩ ⟨Nat.zero_le _, Nat.zero_le _⟩ _ rfl (Nat.le_of_ble_eq_true rfl) dX10_apart_39 (fun H locs hW => ?_)
        refine lv_aload_n hx hb dX10_apart_42 rfl (lv_at hl 0 rfl) ?_
        refine g_get (ci := 10) (k := 4) (val := .ref (E.ad 24)) C g_us hW rfl rfl rfl (in_sid _ rfl) (by decide) f_RX10_37 rfl dX10_apart_43 ?_
        refine lv_aload_n hx hb dX10_apart_46 rfl (lv_at hl 0 rfl) ?_
        refine g_get (ci := 10) (k := 0) (val := .ref (E.ad 1)) C g_us hW rfl rfl rfl (in_sid _ rfl) (by decide) f_RX10_10 rfl dX10_apart_47 ?_
        refine g_get (ci := 1) (k := 0) (val := .ref (E.ad 2)) C g_us hW rfl rfl rfl (in_sid _ rfl) (by decide) f_RX10_62 rfl dX10_apart_50 ?_
        refine lv_iload_n hx hb dX10_apart_53 rfl (lv_at hl 1 rfl) ?_
        replace hf := bd_so hf
        obtain ⟨S9, h8, hf⟩ := hf
        refine g_callVv (ci := 0) (As := [.ref (E.ad 2), .int a1]) (rest := []) C g_us hW hl.1 (c_X0_singTo l E S7 a1 _ h8) rfl rfl rfl (in_sid _ rfl) k_RX10_127 rfl ⟨rfl, rfl⟩ ⟨Nat.le_of_ble_eq_true rfl, Nat.le_of_ble_eq_true rfl⟩ ⟨Nat.zero_le _, Nat.zero_le _⟩ _ rfl (Nat.le_of_ble_eq_true rfl) dX10_apart_54 (fun H locs hW => ?_)
        refine lv_aload_n hx hb dX10_apart_57 rfl (lv_at hl 0 rfl) ?_
        refine g_get (ci := 10) (k := 4) (val := .ref (E.ad 24)) C g_us hW rfl rfl rfl (in_sid _ rfl) (by decide) f_RX10_37 rfl dX10_apart_58 ?_
        refine lv_aload_n hx hb dX10_apart_61 rfl (lv_at hl 0 rfl) ?_
        refine g_get (ci := 10) (k := 0) (val := .ref (E.ad 1)) C g_us hW rfl rfl rfl (in_sid _ rfl) (by decide) f_RX10_10 rfl dX10_apart_62 ?_
        refine g_get (ci := 1) (k := 0) (val := .ref (E.ad 2)) C g_us hW rfl rfl rfl (in_sid _ rfl) (by decide) f_RX10_62 rfl dX10_apart_65 ?_
        replace hf := bd_so hf
        obtain ⟨x11, h10, hf⟩ := hf
        refine g_callVi (ci := 0) (As := [.ref (E.ad 2)]) (rest := []) C g_us hW hl.1 (c_X0_spread l E S9  _ h10) rfl rfl rfl (in_sid _ rfl) k_RX10_146 rfl ⟨rfl, rfl⟩ ⟨Nat.le_of_ble_eq_true rfl, Nat.le_of_ble_eq_true rfl⟩ ⟨Nat.zero_le _, Nat.zero_le _⟩ _ rfl (Nat.le_of_ble_eq_true rfl) dX10_apart_68 (fun H locs hW => ?_)
        obtain ⟨rfl, rfl⟩ := so2 hf
        exact kR _ _ _ _ hW dX10_apart_71
      · replace hf := ift_ hf c5
        refine lv_bipush (v := (-4)) hx hb dX10_apart_25 (by decide) ?_
        obtain ⟨rfl, rfl⟩ := so2 hf
        exact kR _ _ _ _ hW dX10_apart_27
    · replace hf := iff_ hf c2
      refine lv_iconst (v := (-1)) hx hb dX10_apart_10 (by decide) ?_
      obtain ⟨rfl, rfl⟩ := so2 hf
      exact kR _ _ _ _ hW dX10_apart_11

abbrev rm_X10_count : Room := { frames := 4, cells := 0, slots := 0, locals := 125 }
set_option maxHeartbeats 4000000 in
set_option maxRecDepth 100000 in
theorem c_X10_count (l : Launch) (E : En) (S : St) (a1 : Int32) (r : Int32) (hf : X10_count S a1 = some r) : Mi l E yX10_count cX10_count 2 (some .int) rm_X10_count [.ref (E.ad 0), .int a1] S r S := by
  refine g_startI (cc := cX10_count) (n := 2) (by decide) (Nat.le_of_ble_eq_true rfl) ?_
  intro p e s m args below meth c Q H locs C kR hW ls hl
  obtain ⟨⟨hx, hb, hml, hown, hts⟩, hK, hT⟩ := id C
  have hl : lv_has ls 2 [(0, .ref (E.ad 0)), (1, .int a1)] := hl
  unfold X10_count at hf
  refine lv_iload_n hx hb dX10_count_0 rfl (lv_at hl 1 rfl) ?_
  by_cases c1 : a1 = 0
  · replace hf := ift_ hf c1
    refine lv_tableIn (tgt := 40) (off := 39) hx hb dX10_count_1 (by rw [c1]; decide) (by rw [c1]; decide) (by rw [c1]; decide) (by decide) ?_
    refine lv_aload_n hx hb dX10_count_40 rfl (lv_at hl 0 rfl) ?_
    refine g_get (ci := 10) (k := 0) (val := .ref (E.ad 1)) C g_us hW rfl rfl rfl (in_sid _ rfl) (by decide) f_RX10_10 rfl dX10_count_41 ?_
    refine g_get (ci := 1) (k := 0) (val := .ref (E.ad 2)) C g_us hW rfl rfl rfl (in_sid _ rfl) (by decide) f_RX10_62 rfl dX10_count_44 ?_
    refine g_get (ci := 6) (k := 0) (val := .int (rI S 2 0)) C g_us hW rfl rfl rfl (in_sid _ rfl) (by decide) f_RX10_66 rfl dX10_count_47 ?_
    obtain rfl := so1 hf
    exact kR _ _ _ _ hW dX10_count_50
  replace hf := iff_ hf c1
  by_cases c2 : a1 = 1
  · replace hf := ift_ hf c2
    refine lv_tableIn (tgt := 51) (off := 50) hx hb dX10_count_1 (by rw [c2]; decide) (by rw [c2]; decide) (by rw [c2]; decide) (by decide) ?_
    refine lv_aload_n hx hb dX10_count_51 rfl (lv_at hl 0 rfl) ?_
    refine g_get (ci := 10) (k := 0) (val := .ref (E.ad 1)) C g_us hW rfl rfl rfl (in_sid _ rfl) (by decide) f_RX10_10 rfl dX10_count_52 ?_
    refine g_get (ci := 1) (k := 0) (val := .ref (E.ad 2)) C g_us hW rfl rfl rfl (in_sid _ rfl) (by decide) f_RX10_62 rfl dX10_count_55 ?_
    replace hf := bd_so hf
    obtain ⟨x4, h3, hf⟩ := hf
    refine g_callVi (ci := 6) (As := []) (rest := []) C g_us hW hl.1 (c_X6_singers l E S  _ h3) rfl rfl rfl (in_sid _ rfl) k_RX10_134 rfl ⟨rfl, rfl⟩ ⟨Nat.le_of_ble_eq_true rfl, Nat.le_of_ble_eq_true rfl⟩ ⟨Nat.zero_le _, Nat.zero_le _⟩ _ rfl (Nat.le_of_ble_eq_true rfl) dX10_count_58 (fun H locs hW => ?_)
    replace hf := bd_so hf
    obtain ⟨x6, h5, hf⟩ := hf
    refine g_callSi (As := [.int x4]) (rest := []) C g_us hW hl.1 (c_J6_bitCount_0f7a4 l E S x4 _ h5) k_RX10_149 rfl ⟨rfl, rfl⟩ ⟨Nat.le_of_ble_eq_true rfl, Nat.le_of_ble_eq_true rfl⟩ ⟨Nat.zero_le _, Nat.zero_le _⟩ _ rfl (Nat.le_of_ble_eq_true rfl) dX10_count_61 (fun H locs hW => ?_)
    obtain rfl := so1 hf
    exact kR _ _ _ _ hW dX10_count_64
  replace hf := iff_ hf c2
  by_cases c7 : a1 = 2
  · replace hf := ift_ hf c7
    refine lv_tableIn (tgt := 65) (off := 64) hx hb dX10_count_1 (by rw [c7]; decide) (by rw [c7]; decide) (by rw [c7]; decide) (by decide) ?_
    refine lv_aload_n hx hb dX10_count_65 rfl (lv_at hl 0 rfl) ?_
    refine g_get (ci := 10) (k := 0) (val := .ref (E.ad 1)) C g_us hW rfl rfl rfl (in_sid _ rfl) (by decide) f_RX10_10 rfl dX10_count_66 ?_
    refine g_get (ci := 1) (k := 0) (val := .ref (E.ad 2)) C g_us hW rfl rfl rfl (in_sid _ rfl) (by decide) f_RX10_62 rfl dX10_count_69 ?_
    replace hf := bd_so hf
    obtain ⟨x9, h8, hf⟩ := hf
    refine g_callVi (ci := 6) (As := []) (rest := []) C g_us hW hl.1 (c_X6_wiresInAll l E S  _ h8) rfl rfl rfl (in_sid _ rfl) k_RX10_154 rfl ⟨rfl, rfl⟩ ⟨Nat.le_of_ble_eq_true rfl, Nat.le_of_ble_eq_true rfl⟩ ⟨Nat.zero_le _, Nat.zero_le _⟩ _ rfl (Nat.le_of_ble_eq_true rfl) dX10_count_72 (fun H locs hW => ?_)
    obtain rfl := so1 hf
    exact kR _ _ _ _ hW dX10_count_75
  replace hf := iff_ hf c7
  by_cases c10 : a1 = 3
  · replace hf := ift_ hf c10
    refine lv_tableIn (tgt := 76) (off := 75) hx hb dX10_count_1 (by rw [c10]; decide) (by rw [c10]; decide) (by rw [c10]; decide) (by decide) ?_
    refine lv_aload_n hx hb dX10_count_76 rfl (lv_at hl 0 rfl) ?_
    refine g_get (ci := 10) (k := 0) (val := .ref (E.ad 1)) C g_us hW rfl rfl rfl (in_sid _ rfl) (by decide) f_RX10_10 rfl dX10_count_77 ?_
    refine g_get (ci := 1) (k := 1) (val := .ref (E.ad 6)) C g_us hW rfl rfl rfl (in_sid _ rfl) (by decide) f_RX10_157 rfl dX10_count_80 ?_
    refine g_get (ci := 5) (k := 0) (val := .int (rI S 6 0)) C g_us hW rfl rfl rfl (in_sid _ rfl) (by decide) f_RX10_161 rfl dX10_count_83 ?_
    obtain rfl := so1 hf
    exact kR _ _ _ _ hW dX10_count_86
  replace hf := iff_ hf c10
  by_cases c11 : a1 = 4
  · replace hf := ift_ hf c11
    refine lv_tableIn (tgt := 87) (off := 86) hx hb dX10_count_1 (by rw [c11]; decide) (by rw [c11]; decide) (by rw [c11]; decide) (by decide) ?_
    refine lv_aload_n hx hb dX10_count_87 rfl (lv_at hl 0 rfl) ?_
    refine g_get (ci := 10) (k := 0) (val := .ref (E.ad 1)) C g_us hW rfl rfl rfl (in_sid _ rfl) (by decide) f_RX10_10 rfl dX10_count_88 ?_
    refine g_get (ci := 1) (k := 1) (val := .ref (E.ad 6)) C g_us hW rfl rfl rfl (in_sid _ rfl) (by decide) f_RX10_157 rfl dX10_count_91 ?_
    replace hf := bd_so hf
    obtain ⟨x13, h12, hf⟩ := hf
    refine g_callVi (ci := 5) (As := []) (rest := []) C g_us hW hl.1 (c_X5_breaths l E S  _ h12) rfl rfl rfl (in_sid _ rfl) k_RX10_166 rfl ⟨rfl, rfl⟩ ⟨Nat.le_of_ble_eq_true rfl, Nat.le_of_ble_eq_true rfl⟩ ⟨Nat.zero_le _, Nat.zero_le _⟩ _ rfl (Nat.le_of_ble_eq_true rfl) dX10_count_94 (fun H locs hW => ?_)
    obtain rfl := so1 hf
    exact kR _ _ _ _ hW dX10_count_97
  replace hf := iff_ hf c11
  by_cases c14 : a1 = 5
  · replace hf := ift_ hf c14
    refine lv_tableIn (tgt := 98) (off := 97) hx hb dX10_count_1 (by rw [c14]; decide) (by rw [c14]; decide) (by rw [c14]; decide) (by decide) ?_
    refine lv_aload_n hx hb dX10_count_98 rfl (lv_at hl 0 rfl) ?_
    refine g_get (ci := 10) (k := 0) (val := .ref (E.ad 1)) C g_us hW rfl rfl rfl (in_sid _ rfl) (by decide) f_RX10_10 rfl dX10_count_99 ?_
    refine g_get (ci := 1) (k := 2) (val := .ref (E.ad 8)) C g_us hW rfl rfl rfl (in_sid _ rfl) (by decide) f_RX10_169 rfl dX10_count_102 ?_
    refine g_get (ci := 3) (k := 0) (val := .int (rI S 8 0)) C g_us hW rfl rfl rfl (in_sid _ rfl) (by decide) f_RX10_173 rfl dX10_count_105 ?_
    obtain rfl := so1 hf
    exact kR _ _ _ _ hW dX10_count_108
  replace hf := iff_ hf c14
  refine lv_tableOut (tgt := 109) hx hb dX10_count_1 (sw_out5 c1 c2 c7 c10 c11 c14) (by decide) ?_
  refine lv_iconst (v := (-1)) hx hb dX10_count_109 (by decide) ?_
  obtain rfl := so1 hf
  exact kR _ _ _ _ hW dX10_count_110

abbrev rm_X10_hold : Room := { frames := 4, cells := 0, slots := 0, locals := 125 }
set_option maxHeartbeats 4000000 in
set_option maxRecDepth 100000 in
theorem c_X10_hold (l : Launch) (E : En) (S : St) (a1 : Int32) (a2 : Int32) (r : Int32) (hf : X10_hold S a1 a2 = some r) : Mi l E yX10_hold cX10_hold 5 (some .int) rm_X10_hold [.ref (E.ad 0), .int a1, .int a2] S r S := by
  refine g_startI (cc := cX10_hold) (n := 5) (by decide) (Nat.le_of_ble_eq_true rfl) ?_
  intro p e s m args below meth c Q H locs C kR hW ls hl
  obtain ⟨⟨hx, hb, hml, hown, hts⟩, hK, hT⟩ := id C
  have hl : lv_has ls 5 [(0, .ref (E.ad 0)), (1, .int a1), (2, .int a2)] := hl
  unfold X10_hold at hf
  refine lv_aload_n hx hb dX10_hold_0 rfl (lv_at hl 0 rfl) ?_
  refine g_get (ci := 10) (k := 0) (val := .ref (E.ad 1)) C g_us hW rfl rfl rfl (in_sid _ rfl) (by decide) f_RX10_10 rfl dX10_hold_1 ?_
  refine g_get (ci := 1) (k := 0) (val := .ref (E.ad 2)) C g_us hW rfl rfl rfl (in_sid _ rfl) (by decide) f_RX10_62 rfl dX10_hold_4 ?_
  refine lv_iload_n hx hb dX10_hold_7 rfl (lv_at hl 1 rfl) ?_
  replace hf := bd_so hf
  obtain ⟨x2, h1, hf⟩ := hf
  refine g_callVi (ci := 6) (As := [.int a1]) (rest := []) C g_us hW hl.1 (c_X6_has l E S a1 _ h1) rfl rfl rfl (in_sid _ rfl) k_RX10_76 rfl ⟨rfl, rfl⟩ ⟨Nat.le_of_ble_eq_true rfl, Nat.le_of_ble_eq_true rfl⟩ ⟨Nat.zero_le _, Nat.zero_le _⟩ _ rfl (Nat.le_of_ble_eq_true rfl) dX10_hold_8 (fun H locs hW => ?_)
  refine lv_if_eq (tgt := 23) hx hb dX10_hold_11 (by decide) (fun c3 => ?_) (fun c3 => ?_)
  · replace hf := ift_ hf c3
    refine lv_iconst (v := (-1)) hx hb dX10_hold_23 (by decide) ?_
    obtain rfl := so1 hf
    exact kR _ _ _ _ hW dX10_hold_24
  · replace hf := iff_ hf c3
    refine lv_iload_n hx hb dX10_hold_14 rfl (lv_at hl 2 rfl) ?_
    refine lv_if_lt (tgt := 23) hx hb dX10_hold_15 (by decide) (fun c4 => ?_) (fun c4 => ?_)
    · replace hf := ift_ hf c4
      refine lv_iconst (v := (-1)) hx hb dX10_hold_23 (by decide) ?_
      obtain rfl := so1 hf
      exact kR _ _ _ _ hW dX10_hold_24
    · replace hf := iff_ hf c4
      refine lv_iload_n hx hb dX10_hold_18 rfl (lv_at hl 2 rfl) ?_
      refine lv_iconst (v := 1) hx hb dX10_hold_19 (by decide) ?_
      refine lv_icmp_le (tgt := 25) hx hb dX10_hold_20 (by decide) (fun c5 => ?_) (fun c5 => ?_)
      · replace hf := ift_ hf c5
        refine lv_aload_n hx hb dX10_hold_25 rfl (lv_at hl 0 rfl) ?_
        refine g_get (ci := 10) (k := 0) (val := .ref (E.ad 1)) C g_us hW rfl rfl rfl (in_sid _ rfl) (by decide) f_RX10_10 rfl dX10_hold_26 ?_
        refine g_get (ci := 1) (k := 0) (val := .ref (E.ad 2)) C g_us hW rfl rfl rfl (in_sid _ rfl) (by decide) f_RX10_62 rfl dX10_hold_29 ?_
        replace hf := bd_so hf
        obtain ⟨x7, h6, hf⟩ := hf
        refine g_callVi (ci := 6) (As := []) (rest := []) C g_us hW hl.1 (c_X6_singers l E S  _ h6) rfl rfl rfl (in_sid _ rfl) k_RX10_134 rfl ⟨rfl, rfl⟩ ⟨Nat.le_of_ble_eq_true rfl, Nat.le_of_ble_eq_true rfl⟩ ⟨Nat.zero_le _, Nat.zero_le _⟩ _ rfl (Nat.le_of_ble_eq_true rfl) dX10_hold_32 (fun H locs hW => ?_)
        refine lv_iconst (v := 1) hx hb dX10_hold_35 (by decide) ?_
        refine lv_iload_n hx hb dX10_hold_36 rfl (lv_at hl 1 rfl) ?_
        refine lv_ishl hx hb dX10_hold_37 ?_
        refine lv_iconst (v := (-1)) hx hb dX10_hold_38 (by decide) ?_
        refine lv_ixor hx hb dX10_hold_39 ?_
        refine lv_iand hx hb dX10_hold_40 ?_
        refine lv_istore_n (lv' := [(3, .int (x7 &&& ((1 <<< (a1 &&& 31)) ^^^ (-1)))), (0, .ref (E.ad 0)), (1, .int a1), (2, .int a2)]) hx hb dX10_hold_41 rfl hl (by decide) rfl (fun ls hl => ?_)
        refine lv_aload_n hx hb dX10_hold_42 rfl (lv_at hl 1 rfl) ?_
        refine g_get (ci := 10) (k := 0) (val := .ref (E.ad 1)) C g_us hW rfl rfl rfl (in_sid _ rfl) (by decide) f_RX10_10 rfl dX10_hold_43 ?_
        refine g_get (ci := 1) (k := 0) (val := .ref (E.ad 2)) C g_us hW rfl rfl rfl (in_sid _ rfl) (by decide) f_RX10_62 rfl dX10_hold_46 ?_
        refine lv_iload_n hx hb dX10_hold_49 rfl (lv_at hl 2 rfl) ?_
        replace hf := bd_so hf
        obtain ⟨x9, h8, hf⟩ := hf
        refine g_callVi (ci := 6) (As := [.int a1]) (rest := []) C g_us hW hl.1 (c_X6_isCut l E S a1 _ h8) rfl rfl rfl (in_sid _ rfl) k_RX10_176 rfl ⟨rfl, rfl⟩ ⟨Nat.le_of_ble_eq_true rfl, Nat.le_of_ble_eq_true rfl⟩ ⟨Nat.zero_le _, Nat.zero_le _⟩ _ rfl (Nat.le_of_ble_eq_true rfl) dX10_hold_50 (fun H locs hW => ?_)
        refine lv_if_ne (tgt := 71) hx hb dX10_hold_53 (by decide) (fun c10 => ?_) (fun c10 => ?_)
        · replace hf := iff_ hf c10
          refine lv_bipush (v := (-4)) hx hb dX10_hold_71 (by decide) ?_
          obtain rfl := so1 hf
          exact kR _ _ _ _ hW dX10_hold_73
        · replace hf := ift_ hf c10
          refine lv_aload_n hx hb dX10_hold_56 rfl (lv_at hl 1 rfl) ?_
          refine g_get (ci := 10) (k := 0) (val := .ref (E.ad 1)) C g_us hW rfl rfl rfl (in_sid _ rfl) (by decide) f_RX10_10 rfl dX10_hold_57 ?_
          refine g_get (ci := 1) (k := 0) (val := .ref (E.ad 2)) C g_us hW rfl rfl rfl (in_sid _ rfl) (by decide) f_RX10_62 rfl dX10_hold_60 ?_
          refine lv_iload_n hx hb dX10_hold_63 rfl (lv_at hl 2 rfl) ?_
          refine lv_iload_n hx hb dX10_hold_64 rfl (lv_at hl 0 rfl) ?_
          replace hf := bd_so hf
          obtain ⟨x12, h11, hf⟩ := hf
          refine g_callVi (ci := 6) (As := [.int a1, .int (x7 &&& ((1 <<< (a1 &&& 31)) ^^^ (-1)))]) (rest := []) C g_us hW hl.1 (c_X6_reachedByAll l E S a1 (x7 &&& ((1 <<< (a1 &&& 31)) ^^^ (-1))) _ h11) rfl rfl rfl (in_sid _ rfl) k_RX10_179 rfl ⟨rfl, rfl⟩ ⟨Nat.le_of_ble_eq_true rfl, Nat.le_of_ble_eq_true rfl⟩ ⟨Nat.zero_le _, Nat.zero_le _⟩ _ rfl (Nat.le_of_ble_eq_true rfl) dX10_hold_65 (fun H locs hW => ?_)
          refine lv_if_ne (tgt := 74) hx hb dX10_hold_68 (by decide) (fun c13 => ?_) (fun c13 => ?_)
          · replace hf := iff_ hf c13
            refine lv_aload_n hx hb dX10_hold_74 rfl (lv_at hl 1 rfl) ?_
            refine g_get (ci := 10) (k := 0) (val := .ref (E.ad 1)) C g_us hW rfl rfl rfl (in_sid _ rfl) (by decide) f_RX10_10 rfl dX10_hold_75 ?_
            refine g_get (ci := 1) (k := 0) (val := .ref (E.ad 2)) C g_us hW rfl rfl rfl (in_sid _ rfl) (by decide) f_RX10_62 rfl dX10_hold_78 ?_
            refine lv_iload_n hx hb dX10_hold_81 rfl (lv_at hl 2 rfl) ?_
            refine lv_iload_n hx hb dX10_hold_82 rfl (lv_at hl 0 rfl) ?_
            replace hf := bd_so hf
            obtain ⟨x15, h14, hf⟩ := hf
            refine g_callVi (ci := 6) (As := [.int a1, .int (x7 &&& ((1 <<< (a1 &&& 31)) ^^^ (-1)))]) (rest := []) C g_us hW hl.1 (c_X6_longestWire l E S a1 (x7 &&& ((1 <<< (a1 &&& 31)) ^^^ (-1))) _ h14) rfl rfl rfl (in_sid _ rfl) k_RX10_182 rfl ⟨rfl, rfl⟩ ⟨Nat.le_of_ble_eq_true rfl, Nat.le_of_ble_eq_true rfl⟩ ⟨Nat.zero_le _, Nat.zero_le _⟩ _ rfl (Nat.le_of_ble_eq_true rfl) dX10_hold_83 (fun H locs hW => ?_)
            refine lv_istore (lv' := [(4, .int x15), (3, .int (x7 &&& ((1 <<< (a1 &&& 31)) ^^^ (-1)))), (0, .ref (E.ad 0)), (1, .int a1), (2, .int a2)]) hx hb dX10_hold_86 hl (by decide) rfl (fun ls hl => ?_)
            refine lv_iload_n hx hb dX10_hold_88 rfl (lv_at hl 4 rfl) ?_
            refine lv_if_ne (tgt := 97) hx hb dX10_hold_89 (by decide) (fun c16 => ?_) (fun c16 => ?_)
            · replace hf := iff_ hf c16
              refine lv_aload_n hx hb dX10_hold_97 rfl (lv_at hl 2 rfl) ?_
              refine g_get (ci := 10) (k := 0) (val := .ref (E.ad 1)) C g_us hW rfl rfl rfl (in_sid _ rfl) (by decide) f_RX10_10 rfl dX10_hold_98 ?_
              refine g_get (ci := 1) (k := 0) (val := .ref (E.ad 2)) C g_us hW rfl rfl rfl (in_sid _ rfl) (by decide) f_RX10_62 rfl dX10_hold_101 ?_
              refine lv_iload_n hx hb dX10_hold_104 rfl (lv_at hl 3 rfl) ?_
              refine lv_iload_n hx hb dX10_hold_105 rfl (lv_at hl 1 rfl) ?_
              refine lv_iload hx hb dX10_hold_106 (lv_at hl 0 rfl) ?_
              replace hf := bd_so hf
              obtain ⟨x18, h17, hf⟩ := hf
              refine g_callVi (ci := 6) (As := [.int a1, .int (x7 &&& ((1 <<< (a1 &&& 31)) ^^^ (-1))), .int x15]) (rest := []) C g_us hW hl.1 (c_X6_costOfHolding l E S a1 (x7 &&& ((1 <<< (a1 &&& 31)) ^^^ (-1))) x15 _ h17) rfl rfl rfl (in_sid _ rfl) k_RX10_186 rfl ⟨rfl, rfl⟩ ⟨Nat.le_of_ble_eq_true rfl, Nat.le_of_ble_eq_true rfl⟩ ⟨Nat.zero_le _, Nat.zero_le _⟩ _ rfl (Nat.le_of_ble_eq_true rfl) dX10_hold_108 (fun H locs hW => ?_)
              obtain rfl := so1 hf
              exact kR _ _ _ _ hW dX10_hold_111
            · replace hf := ift_ hf c16
              refine lv_iload hx hb dX10_hold_92 (lv_at hl 0 rfl) ?_
              refine lv_goto (tgt := 111) hx hb dX10_hold_94 (by decide) ?_
              obtain rfl := so1 hf
              exact kR _ _ _ _ hW dX10_hold_111
          · replace hf := ift_ hf c13
            refine lv_bipush (v := (-4)) hx hb dX10_hold_71 (by decide) ?_
            obtain rfl := so1 hf
            exact kR _ _ _ _ hW dX10_hold_73
      · replace hf := iff_ hf c5
        refine lv_iconst (v := (-1)) hx hb dX10_hold_23 (by decide) ?_
        obtain rfl := so1 hf
        exact kR _ _ _ _ hW dX10_hold_24

abbrev rm_X10_together : Room := { frames := 5, cells := 0, slots := 0, locals := 156 }
set_option maxHeartbeats 4000000 in
set_option maxRecDepth 100000 in
theorem c_X10_together (l : Launch) (E : En) (S : St) (a1 : Int32) (a2 : Int32) (r : Int32) (S1 : St) (hf : X10_together S a1 a2 = some (r, S1)) : Mi l E yX10_together cX10_together 3 (some .int) rm_X10_together [.ref (E.ad 0), .int a1, .int a2] S r S1 := by
  refine g_startI (cc := cX10_together) (n := 3) (by decide) (Nat.le_of_ble_eq_true rfl) ?_
  intro p e s m args below meth c Q H locs C kR hW ls hl
  obtain ⟨⟨hx, hb, hml, hown, hts⟩, hK, hT⟩ := id C
  have hl : lv_has ls 3 [(0, .ref (E.ad 0)), (1, .int a1), (2, .int a2)] := hl
  unfold X10_together at hf
  refine lv_iload_n hx hb dX10_together_0 rfl (lv_at hl 1 rfl) ?_
  refine lv_if_eq (tgt := 21) hx hb dX10_together_1 (by decide) (fun c1 => ?_) (fun c1 => ?_)
  · replace hf := ift_ hf c1
    refine lv_iconst (v := (-1)) hx hb dX10_together_21 (by decide) ?_
    obtain ⟨rfl, rfl⟩ := so2 hf
    exact kR _ _ _ _ hW dX10_together_22
  · replace hf := iff_ hf c1
    refine lv_iload_n hx hb dX10_together_4 rfl (lv_at hl 1 rfl) ?_
    refine lv_aload_n hx hb dX10_together_5 rfl (lv_at hl 0 rfl) ?_
    refine g_get (ci := 10) (k := 0) (val := .ref (E.ad 1)) C g_us hW rfl rfl rfl (in_sid _ rfl) (by decide) f_RX10_10 rfl dX10_together_6 ?_
    refine g_get (ci := 1) (k := 0) (val := .ref (E.ad 2)) C g_us hW rfl rfl rfl (in_sid _ rfl) (by decide) f_RX10_62 rfl dX10_together_9 ?_
    replace hf := bd_so hf
    obtain ⟨x3, h2, hf⟩ := hf
    refine g_callVi (ci := 6) (As := []) (rest := [.int a1]) C g_us hW hl.1 (c_X6_all l E S  _ h2) rfl rfl rfl (in_sid _ rfl) k_RX10_189 rfl ⟨rfl, rfl⟩ ⟨Nat.le_of_ble_eq_true rfl, Nat.le_of_ble_eq_true rfl⟩ ⟨Nat.zero_le _, Nat.zero_le _⟩ _ rfl (Nat.le_of_ble_eq_true rfl) dX10_together_12 (fun H locs hW => ?_)
    refine lv_iconst (v := (-1)) hx hb dX10_together_15 (by decide) ?_
    refine lv_ixor hx hb dX10_together_16 ?_
    refine lv_iand hx hb dX10_together_17 ?_
    refine lv_if_eq (tgt := 23) hx hb dX10_together_18 (by decide) (fun c4 => ?_) (fun c4 => ?_)
    · replace hf := ift_ hf c4
      refine lv_iload_n hx hb dX10_together_23 rfl (lv_at hl 2 rfl) ?_
      refine lv_bipush (v := 8) hx hb dX10_together_24 (by decide) ?_
      refine lv_icmp_ne (tgt := 45) hx hb dX10_together_26 (by decide) (fun c5 => ?_) (fun c5 => ?_)
      · replace hf := iff_ hf c5
        refine lv_aload_n hx hb dX10_together_45 rfl (lv_at hl 0 rfl) ?_
        refine g_get (ci := 10) (k := 0) (val := .ref (E.ad 1)) C g_us hW rfl rfl rfl (in_sid _ rfl) (by decide) f_RX10_10 rfl dX10_together_46 ?_
        refine g_get (ci := 1) (k := 0) (val := .ref (E.ad 2)) C g_us hW rfl rfl rfl (in_sid _ rfl) (by decide) f_RX10_62 rfl dX10_together_49 ?_
        refine lv_iload_n hx hb dX10_together_52 rfl (lv_at hl 2 rfl) ?_
        replace hf := bd_so hf
        obtain ⟨x7, h6, hf⟩ := hf
        refine g_callVi (ci := 6) (As := [.int a2]) (rest := []) C g_us hW hl.1 (c_X6_has l E S a2 _ h6) rfl rfl rfl (in_sid _ rfl) k_RX10_76 rfl ⟨rfl, rfl⟩ ⟨Nat.le_of_ble_eq_true rfl, Nat.le_of_ble_eq_true rfl⟩ ⟨Nat.zero_le _, Nat.zero_le _⟩ _ rfl (Nat.le_of_ble_eq_true rfl) dX10_together_53 (fun H locs hW => ?_)
        refine lv_if_ne (tgt := 61) hx hb dX10_together_56 (by decide) (fun c8 => ?_) (fun c8 => ?_)
        · replace hf := iff_ hf c8
          refine lv_aload_n hx hb dX10_together_61 rfl (lv_at hl 0 rfl) ?_
          refine g_get (ci := 10) (k := 0) (val := .ref (E.ad 1)) C g_us hW rfl rfl rfl (in_sid _ rfl) (by decide) f_RX10_10 rfl dX10_together_62 ?_
          refine g_get (ci := 1) (k := 0) (val := .ref (E.ad 2)) C g_us hW rfl rfl rfl (in_sid _ rfl) (by decide) f_RX10_62 rfl dX10_together_65 ?_
          refine lv_iload_n hx hb dX10_together_68 rfl (lv_at hl 2 rfl) ?_
          replace hf := bd_so hf
          obtain ⟨x10, h9, hf⟩ := hf
          refine g_callVi (ci := 6) (As := [.int a2]) (rest := []) C g_us hW hl.1 (c_X6_sings l E S a2 _ h9) rfl rfl rfl (in_sid _ rfl) k_RX10_119 rfl ⟨rfl, rfl⟩ ⟨Nat.le_of_ble_eq_true rfl, Nat.le_of_ble_eq_true rfl⟩ ⟨Nat.zero_le _, Nat.zero_le _⟩ _ rfl (Nat.le_of_ble_eq_true rfl) dX10_together_69 (fun H locs hW => ?_)
          refine lv_if_eq (tgt := 83) hx hb dX10_together_72 (by decide) (fun c11 => ?_) (fun c11 => ?_)
          · replace hf := ift_ hf c11
            refine lv_bipush (v := (-2)) hx hb dX10_together_83 (by decide) ?_
            obtain ⟨rfl, rfl⟩ := so2 hf
            exact kR _ _ _ _ hW dX10_together_85
          · replace hf := iff_ hf c11
            refine lv_iload_n hx hb dX10_together_75 rfl (lv_at hl 1 rfl) ?_
            refine lv_iload_n hx hb dX10_together_76 rfl (lv_at hl 2 rfl) ?_
            refine lv_ishr hx hb dX10_together_77 ?_
            refine lv_iconst (v := 1) hx hb dX10_together_78 (by decide) ?_
            refine lv_iand hx hb dX10_together_79 ?_
            refine lv_if_eq (tgt := 86) hx hb dX10_together_80 (by decide) (fun c12 => ?_) (fun c12 => ?_)
            · replace hf := ift_ hf c12
              refine lv_aload_n hx hb dX10_together_86 rfl (lv_at hl 0 rfl) ?_
              refine g_get (ci := 10) (k := 5) (val := .ref (E.ad 30)) C g_us hW rfl rfl rfl (in_sid _ rfl) (by decide) f_RX10_44 rfl dX10_together_87 ?_
              refine lv_aload_n hx hb dX10_together_90 rfl (lv_at hl 0 rfl) ?_
              refine g_get (ci := 10) (k := 0) (val := .ref (E.ad 1)) C g_us hW rfl rfl rfl (in_sid _ rfl) (by decide) f_RX10_10 rfl dX10_together_91 ?_
              refine g_get (ci := 1) (k := 0) (val := .ref (E.ad 2)) C g_us hW rfl rfl rfl (in_sid _ rfl) (by decide) f_RX10_62 rfl dX10_together_94 ?_
              refine lv_iload_n hx hb dX10_together_97 rfl (lv_at hl 1 rfl) ?_
              replace hf := bd_so hf
              obtain ⟨⟨x14, S15⟩, h13, hf⟩ := hf
              dsimp only at hf
              refine g_callVi (ci := 2) (As := [.ref (E.ad 2), .int a1]) (rest := []) C g_us hW hl.1 (c_X2_firstFailing l E S a1 _ _ h13) rfl rfl rfl (in_sid _ rfl) k_RX10_192 rfl ⟨rfl, rfl⟩ ⟨Nat.le_of_ble_eq_true rfl, Nat.le_of_ble_eq_true rfl⟩ ⟨Nat.zero_le _, Nat.zero_le _⟩ _ rfl (Nat.le_of_ble_eq_true rfl) dX10_together_98 (fun H locs hW => ?_)
              refine lv_bipush (v := (-4)) hx hb dX10_together_101 (by decide) ?_
              refine lv_icmp_ne (tgt := 117) hx hb dX10_together_103 (by decide) (fun c16 => ?_) (fun c16 => ?_)
              · replace hf := iff_ hf c16
                refine lv_bipush (v := (-4)) hx hb dX10_together_117 (by decide) ?_
                obtain ⟨rfl, rfl⟩ := so2 hf
                exact kR _ _ _ _ hW dX10_together_119
              · replace hf := ift_ hf c16
                refine lv_aload_n hx hb dX10_together_106 rfl (lv_at hl 0 rfl) ?_
                refine g_get (ci := 10) (k := 5) (val := .ref (E.ad 30)) C g_us hW rfl rfl rfl (in_sid _ rfl) (by decide) f_RX10_44 rfl dX10_together_107 ?_
                refine lv_iload_n hx hb dX10_together_110 rfl (lv_at hl 2 rfl) ?_
                replace hf := bd_so hf
                obtain ⟨x18, h17, hf⟩ := hf
                refine g_callVi (ci := 2) (As := [.int a2]) (rest := []) C g_us hW hl.1 (c_X2_leadOf l E S15 a2 _ h17) rfl rfl rfl (in_sid _ rfl) k_RX10_196 rfl ⟨rfl, rfl⟩ ⟨Nat.le_of_ble_eq_true rfl, Nat.le_of_ble_eq_true rfl⟩ ⟨Nat.zero_le _, Nat.zero_le _⟩ _ rfl (Nat.le_of_ble_eq_true rfl) dX10_together_111 (fun H locs hW => ?_)
                refine lv_goto (tgt := 119) hx hb dX10_together_114 (by decide) ?_
                obtain ⟨rfl, rfl⟩ := so2 hf
                exact kR _ _ _ _ hW dX10_together_119
            · replace hf := iff_ hf c12
              refine lv_bipush (v := (-2)) hx hb dX10_together_83 (by decide) ?_
              obtain ⟨rfl, rfl⟩ := so2 hf
              exact kR _ _ _ _ hW dX10_together_85
        · replace hf := ift_ hf c8
          refine lv_iconst (v := (-1)) hx hb dX10_together_59 (by decide) ?_
          obtain ⟨rfl, rfl⟩ := so2 hf
          exact kR _ _ _ _ hW dX10_together_60
      · replace hf := ift_ hf c5
        refine lv_aload_n hx hb dX10_together_29 rfl (lv_at hl 0 rfl) ?_
        refine g_get (ci := 10) (k := 5) (val := .ref (E.ad 30)) C g_us hW rfl rfl rfl (in_sid _ rfl) (by decide) f_RX10_44 rfl dX10_together_30 ?_
        refine lv_aload_n hx hb dX10_together_33 rfl (lv_at hl 0 rfl) ?_
        refine g_get (ci := 10) (k := 0) (val := .ref (E.ad 1)) C g_us hW rfl rfl rfl (in_sid _ rfl) (by decide) f_RX10_10 rfl dX10_together_34 ?_
        refine g_get (ci := 1) (k := 0) (val := .ref (E.ad 2)) C g_us hW rfl rfl rfl (in_sid _ rfl) (by decide) f_RX10_62 rfl dX10_together_37 ?_
        refine lv_iload_n hx hb dX10_together_40 rfl (lv_at hl 1 rfl) ?_
        replace hf := bd_so hf
        obtain ⟨⟨x20, S21⟩, h19, hf⟩ := hf
        dsimp only at hf
        refine g_callVi (ci := 2) (As := [.ref (E.ad 2), .int a1]) (rest := []) C g_us hW hl.1 (c_X2_firstFailing l E S a1 _ _ h19) rfl rfl rfl (in_sid _ rfl) k_RX10_192 rfl ⟨rfl, rfl⟩ ⟨Nat.le_of_ble_eq_true rfl, Nat.le_of_ble_eq_true rfl⟩ ⟨Nat.zero_le _, Nat.zero_le _⟩ _ rfl (Nat.le_of_ble_eq_true rfl) dX10_together_41 (fun H locs hW => ?_)
        obtain ⟨rfl, rfl⟩ := so2 hf
        exact kR _ _ _ _ hW dX10_together_44
    · replace hf := iff_ hf c4
      refine lv_iconst (v := (-1)) hx hb dX10_together_21 (by decide) ?_
      obtain ⟨rfl, rfl⟩ := so2 hf
      exact kR _ _ _ _ hW dX10_together_22

abbrev rm_X10_type : Room := { frames := 2, cells := 0, slots := 0, locals := 84 }
set_option maxHeartbeats 4000000 in
set_option maxRecDepth 100000 in
theorem c_X10_type (l : Launch) (E : En) (S : St) (a1 : Int64) (a3 : Int32) (r : Int32) (S1 : St) (hf : X10_type S a1 a3 = some (r, S1)) : Mi l E yX10_type cX10_type 4 (some .int) rm_X10_type [.ref (E.ad 0), .long a1, .int a3] S r S1 := by
  refine g_startI (cc := cX10_type) (n := 4) (by decide) (Nat.le_of_ble_eq_true rfl) ?_
  intro p e s m args below meth c Q H locs C kR hW ls hl
  obtain ⟨⟨hx, hb, hml, hown, hts⟩, hK, hT⟩ := id C
  have hl : lv_has ls 4 [(0, .ref (E.ad 0)), (1, .long a1), (3, .int a3)] := hl
  unfold X10_type at hf
  refine lv_iload_n hx hb dX10_type_0 rfl (lv_at hl 2 rfl) ?_
  refine lv_iconst (v := 1) hx hb dX10_type_1 (by decide) ?_
  refine lv_icmp_lt (tgt := 19) hx hb dX10_type_2 (by decide) (fun c1 => ?_) (fun c1 => ?_)
  · replace hf := ift_ hf c1
    refine lv_iconst (v := (-1)) hx hb dX10_type_19 (by decide) ?_
    obtain ⟨rfl, rfl⟩ := so2 hf
    exact kR _ _ _ _ hW dX10_type_20
  · replace hf := iff_ hf c1
    refine lv_iload_n hx hb dX10_type_5 rfl (lv_at hl 2 rfl) ?_
    refine lv_bipush (v := 8) hx hb dX10_type_6 (by decide) ?_
    refine lv_icmp_gt (tgt := 19) hx hb dX10_type_8 (by decide) (fun c2 => ?_) (fun c2 => ?_)
    · replace hf := ift_ hf c2
      refine lv_iconst (v := (-1)) hx hb dX10_type_19 (by decide) ?_
      obtain ⟨rfl, rfl⟩ := so2 hf
      exact kR _ _ _ _ hW dX10_type_20
    · replace hf := iff_ hf c2
      refine lv_lload_n hx hb dX10_type_11 rfl (lv_at hl 1 rfl) ?_
      refine lv_iload_n hx hb dX10_type_12 rfl (lv_at hl 2 rfl) ?_
      replace hf := bd_so hf
      obtain ⟨x4, h3, hf⟩ := hf
      refine g_callSi (As := [.long a1, .int a3]) (rest := []) C g_us hW hl.1 (c_X8_canStand l E S a1 a3 _ h3) k_RX10_199 rfl ⟨rfl, rfl⟩ ⟨Nat.le_of_ble_eq_true rfl, Nat.le_of_ble_eq_true rfl⟩ ⟨Nat.zero_le _, Nat.zero_le _⟩ _ rfl (Nat.le_of_ble_eq_true rfl) dX10_type_13 (fun H locs hW => ?_)
      refine lv_if_ne (tgt := 21) hx hb dX10_type_16 (by decide) (fun c5 => ?_) (fun c5 => ?_)
      · replace hf := iff_ hf c5
        refine lv_aload_n hx hb dX10_type_21 rfl (lv_at hl 0 rfl) ?_
        refine g_get (ci := 10) (k := 2) (val := .ref (E.ad 11)) C g_us hW rfl rfl rfl (in_sid _ rfl) (by decide) f_RX10_23 rfl dX10_type_22 ?_
        refine g_get (ci := 8) (k := 0) (val := .int (rI S 11 0)) C g_us hW rfl rfl rfl (in_sid _ rfl) (by decide) f_RX10_203 rfl dX10_type_25 ?_
        refine lv_iload_n hx hb dX10_type_28 rfl (lv_at hl 2 rfl) ?_
        refine lv_iadd hx hb dX10_type_29 ?_
        refine lv_bipush (v := 120) hx hb dX10_type_30 (by decide) ?_
        refine lv_icmp_le (tgt := 40) hx hb dX10_type_32 (by decide) (fun c6 => ?_) (fun c6 => ?_)
        · replace hf := ift_ hf c6
          refine lv_aload_n hx hb dX10_type_40 rfl (lv_at hl 0 rfl) ?_
          refine g_get (ci := 10) (k := 2) (val := .ref (E.ad 11)) C g_us hW rfl rfl rfl (in_sid _ rfl) (by decide) f_RX10_23 rfl dX10_type_41 ?_
          refine lv_lload_n hx hb dX10_type_44 rfl (lv_at hl 1 rfl) ?_
          refine lv_iload_n hx hb dX10_type_45 rfl (lv_at hl 2 rfl) ?_
          replace hf := bd_so hf
          obtain ⟨⟨x8, S9⟩, h7, hf⟩ := hf
          dsimp only at hf
          refine g_callVi (ci := 8) (As := [.long a1, .int a3]) (rest := []) C g_us hW hl.1 (c_X8_append l E S a1 a3 _ _ h7) rfl rfl rfl (in_sid _ rfl) k_RX10_204 rfl ⟨rfl, rfl⟩ ⟨Nat.le_of_ble_eq_true rfl, Nat.le_of_ble_eq_true rfl⟩ ⟨Nat.zero_le _, Nat.zero_le _⟩ _ rfl (Nat.le_of_ble_eq_true rfl) dX10_type_46 (fun H locs hW => ?_)
          obtain ⟨rfl, rfl⟩ := so2 hf
          exact kR _ _ _ _ hW dX10_type_49
        · replace hf := iff_ hf c6
          refine lv_bipush (v := (-3)) hx hb dX10_type_35 (by decide) ?_
          refine lv_goto (tgt := 49) hx hb dX10_type_37 (by decide) ?_
          obtain ⟨rfl, rfl⟩ := so2 hf
          exact kR _ _ _ _ hW dX10_type_49
      · replace hf := ift_ hf c5
        refine lv_iconst (v := (-1)) hx hb dX10_type_19 (by decide) ?_
        obtain ⟨rfl, rfl⟩ := so2 hf
        exact kR _ _ _ _ hW dX10_type_20

abbrev rm_X10_piece : Room := { frames := 4, cells := 0, slots := 0, locals := 131 }
set_option maxHeartbeats 4000000 in
set_option maxRecDepth 100000 in
theorem c_X10_piece (l : Launch) (E : En) (S : St) (r : Int32) (S1 : St) (hf : X10_piece S  = some (r, S1)) : Mi l E yX10_piece cX10_piece 2 (some .int) rm_X10_piece [.ref (E.ad 0)] S r S1 := by
  refine g_startI (cc := cX10_piece) (n := 2) (by decide) (Nat.le_of_ble_eq_true rfl) ?_
  intro p e s m args below meth c Q H locs C kR hW ls hl
  obtain ⟨⟨hx, hb, hml, hown, hts⟩, hK, hT⟩ := id C
  have hl : lv_has ls 2 [(0, .ref (E.ad 0))] := hl
  unfold X10_piece at hf
  refine lv_aload_n hx hb dX10_piece_0 rfl (lv_at hl 0 rfl) ?_
  refine g_get (ci := 10) (k := 2) (val := .ref (E.ad 11)) C g_us hW rfl rfl rfl (in_sid _ rfl) (by decide) f_RX10_23 rfl dX10_piece_1 ?_
  replace hf := bd_so hf
  obtain ⟨⟨x2, S3⟩, h1, hf⟩ := hf
  dsimp only at hf
  refine g_callVi (ci := 8) (As := []) (rest := []) C g_us hW hl.1 (c_X8_read l E S  _ _ h1) rfl rfl rfl (in_sid _ rfl) k_RX10_208 rfl ⟨rfl, rfl⟩ ⟨Nat.le_of_ble_eq_true rfl, Nat.le_of_ble_eq_true rfl⟩ ⟨Nat.zero_le _, Nat.zero_le _⟩ _ rfl (Nat.le_of_ble_eq_true rfl) dX10_piece_4 (fun H locs hW => ?_)
  refine lv_istore_n (lv' := [(1, .int x2), (0, .ref (E.ad 0))]) hx hb dX10_piece_7 rfl hl (by decide) rfl (fun ls hl => ?_)
  refine lv_iload_n hx hb dX10_piece_8 rfl (lv_at hl 0 rfl) ?_
  replace hf := bd_so hf
  obtain ⟨S5, h6, hf⟩ := hf
  have J7 : ∀ (H : Heap) (locs : List Loc) (ls : Array Slot), Ww E S5 s H locs → lv_has ls 2 [(0, .ref (E.ad 0)), (1, .int x2)] → W p l e rm_X10_piece s m args below meth c H locs 0 0 Q (F0 m 29 ls []) := by
    intro H locs ls hW hl
    refine lv_aload_n hx hb dX10_piece_29 rfl (lv_at hl 0 rfl) ?_
    refine g_get (ci := 10) (k := 2) (val := .ref (E.ad 11)) C g_us hW rfl rfl rfl (in_sid _ rfl) (by decide) f_RX10_23 rfl dX10_piece_30 ?_
    refine lv_iconst (v := 0) hx hb dX10_piece_33 (by decide) ?_
    replace hf := bd_so hf
    obtain ⟨S8, h9, hf⟩ := hf
    refine g_putI (ci := 8) (k := 0) C g_us hW rfl rfl rfl (in_sid _ rfl) (by decide) f_RX10_203 rfl rfl rfl h9 dX10_piece_34 (fun H locs hW => ?_)
    refine lv_iload_n hx hb dX10_piece_37 rfl (lv_at hl 1 rfl) ?_
    obtain ⟨rfl, rfl⟩ := so2 hf
    exact kR _ _ _ _ hW dX10_piece_38
  clear hf
  have hf := h6
  clear h6
  refine lv_if_le (tgt := 29) hx hb dX10_piece_9 (by decide) (fun c4 => ?_) (fun c4 => ?_)
  · replace hf := ift_ hf c4
    obtain rfl := so1 hf
    exact J7 _ _ _ hW (lv_sub hl [1, 0] rfl)
  · replace hf := iff_ hf c4
    refine lv_aload_n hx hb dX10_piece_12 rfl (lv_at hl 1 rfl) ?_
    refine g_get (ci := 10) (k := 0) (val := .ref (E.ad 1)) C g_us hW rfl rfl rfl (in_sid _ rfl) (by decide) f_RX10_10 rfl dX10_piece_13 ?_
    refine g_get (ci := 1) (k := 1) (val := .ref (E.ad 6)) C g_us hW rfl rfl rfl (in_sid _ rfl) (by decide) f_RX10_157 rfl dX10_piece_16 ?_
    refine lv_aload_n hx hb dX10_piece_19 rfl (lv_at hl 1 rfl) ?_
    refine g_get (ci := 10) (k := 2) (val := .ref (E.ad 11)) C g_us hW rfl rfl rfl (in_sid _ rfl) (by decide) f_RX10_23 rfl dX10_piece_20 ?_
    refine g_get (ci := 8) (k := 1) (val := .ref (E.ad 12)) C g_us hW rfl rfl rfl (in_sid _ rfl) (by decide) f_RX10_211 rfl dX10_piece_23 ?_
    replace hf := bd_so hf
    obtain ⟨S11, h10, hf⟩ := hf
    refine g_callVv (ci := 5) (As := [.ref (E.ad 12)]) (rest := []) C g_us hW hl.1 (c_X5_take l E S3 6 12 _ h10) rfl rfl rfl (in_sid _ rfl) k_RX10_214 rfl ⟨rfl, rfl⟩ ⟨Nat.le_of_ble_eq_true rfl, Nat.le_of_ble_eq_true rfl⟩ ⟨Nat.zero_le _, Nat.zero_le _⟩ _ rfl (Nat.le_of_ble_eq_true rfl) dX10_piece_26 (fun H locs hW => ?_)
    obtain rfl := so1 hf
    exact J7 _ _ _ hW (lv_sub hl [1, 0] rfl)

abbrev rm_X10_sound : Room := { frames := 1, cells := 0, slots := 0, locals := 60 }
set_option maxHeartbeats 4000000 in
set_option maxRecDepth 100000 in
theorem c_X10_sound (l : Launch) (E : En) (S : St) (a1 : Int32) (r : Int32) (hf : X10_sound S a1 = some r) : Mi l E yX10_sound cX10_sound 2 (some .int) rm_X10_sound [.ref (E.ad 0), .int a1] S r S := by
  refine g_startI (cc := cX10_sound) (n := 2) (by decide) (Nat.le_of_ble_eq_true rfl) ?_
  intro p e s m args below meth c Q H locs C kR hW ls hl
  obtain ⟨⟨hx, hb, hml, hown, hts⟩, hK, hT⟩ := id C
  have hl : lv_has ls 2 [(0, .ref (E.ad 0)), (1, .int a1)] := hl
  unfold X10_sound at hf
  refine lv_iload_n hx hb dX10_sound_0 rfl (lv_at hl 1 rfl) ?_
  refine lv_if_lt (tgt := 18) hx hb dX10_sound_1 (by decide) (fun c1 => ?_) (fun c1 => ?_)
  · replace hf := ift_ hf c1
    refine lv_iconst (v := (-1)) hx hb dX10_sound_18 (by decide) ?_
    refine lv_goto (tgt := 34) hx hb dX10_sound_19 (by decide) ?_
    obtain rfl := so1 hf
    exact kR _ _ _ _ hW dX10_sound_34
  · replace hf := iff_ hf c1
    refine lv_iload_n hx hb dX10_sound_4 rfl (lv_at hl 1 rfl) ?_
    refine lv_aload_n hx hb dX10_sound_5 rfl (lv_at hl 0 rfl) ?_
    refine g_get (ci := 10) (k := 0) (val := .ref (E.ad 1)) C g_us hW rfl rfl rfl (in_sid _ rfl) (by decide) f_RX10_10 rfl dX10_sound_6 ?_
    refine g_get (ci := 1) (k := 1) (val := .ref (E.ad 6)) C g_us hW rfl rfl rfl (in_sid _ rfl) (by decide) f_RX10_157 rfl dX10_sound_9 ?_
    refine g_get (ci := 5) (k := 0) (val := .int (rI S 6 0)) C g_us hW rfl rfl rfl (in_sid _ rfl) (by decide) f_RX10_161 rfl dX10_sound_12 ?_
    refine lv_icmp_lt (tgt := 22) hx hb dX10_sound_15 (by decide) (fun c2 => ?_) (fun c2 => ?_)
    · replace hf := ift_ hf c2
      refine lv_aload_n hx hb dX10_sound_22 rfl (lv_at hl 0 rfl) ?_
      refine g_get (ci := 10) (k := 0) (val := .ref (E.ad 1)) C g_us hW rfl rfl rfl (in_sid _ rfl) (by decide) f_RX10_10 rfl dX10_sound_23 ?_
      refine g_get (ci := 1) (k := 1) (val := .ref (E.ad 6)) C g_us hW rfl rfl rfl (in_sid _ rfl) (by decide) f_RX10_157 rfl dX10_sound_26 ?_
      refine g_get (ci := 5) (k := 1) (val := .ref (E.ad 7)) C g_us hW rfl rfl rfl (in_sid _ rfl) (by decide) f_RX10_218 rfl dX10_sound_29 ?_
      refine lv_iload_n hx hb dX10_sound_32 rfl (lv_at hl 1 rfl) ?_
      replace hf := bd_so hf
      obtain ⟨x3, h4, hf⟩ := hf
      refine g_iald C hW h4 dX10_sound_33 ?_
      obtain rfl := so1 hf
      exact kR _ _ _ _ hW dX10_sound_34
    · replace hf := iff_ hf c2
      refine lv_iconst (v := (-1)) hx hb dX10_sound_18 (by decide) ?_
      refine lv_goto (tgt := 34) hx hb dX10_sound_19 (by decide) ?_
      obtain rfl := so1 hf
      exact kR _ _ _ _ hW dX10_sound_34
