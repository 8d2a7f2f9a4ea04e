theorem zb_X11_in {S : St} {a0 a2 a4 : Int64} {r : Int32} (h : X11_in S a0 a2 a4 = some r) : r = 0 ∨ r = 1 := by
  unfold X11_in at h
  repeat' split at h
  all_goals first | (cases h; exact Or.inl rfl) | (cases h; exact Or.inr rfl)
abbrev rm_X11_in : Room := { frames := 1, cells := 0, slots := 0, locals := 60 }
set_option maxHeartbeats 4000000 in
set_option maxRecDepth 100000 in
theorem c_X11_in (l : Launch) (E : En) (S : St) (a0 : Int64) (a2 : Int64) (a4 : Int64) (r : Int32) (hf : X11_in S a0 a2 a4 = some r) : Mi l E yX11_in cX11_in 6 (some .boolean) rm_X11_in [.long a0, .long a2, .long a4] S r S := by
  refine g_startZ (cc := cX11_in) (n := 6) (by decide) (Nat.le_of_ble_eq_true rfl) ?_
  intro p e s m args below meth c Q H locs C kR hW ls hl
  obtain ⟨⟨hx, hb, hml, hown, hts⟩, hK, hT⟩ := id C
  have hl : lv_has ls 6 [(0, .long a0), (2, .long a2), (4, .long a4)] := hl
  unfold X11_in at hf
  refine lv_lload_n hx hb dX11_in_0 rfl (lv_at hl 0 rfl) ?_
  refine lv_lload_n hx hb dX11_in_1 rfl (lv_at hl 1 rfl) ?_
  refine W.lcmp hx hb dX11_in_2 ?_
  refine lv_if_lt (tgt := 17) hx hb dX11_in_3 (by decide) (fun c1 => ?_) (fun c1 => ?_)
  · replace hf := ift_ hf c1
    refine lv_iconst (v := 0) hx hb dX11_in_17 (by decide) ?_
    obtain rfl := so1 hf
    exact kR _ _ _ _ hW (Or.inl rfl) dX11_in_18
  · replace hf := iff_ hf c1
    refine lv_lload_n hx hb dX11_in_6 rfl (lv_at hl 0 rfl) ?_
    refine lv_lload hx hb dX11_in_7 (lv_at hl 2 rfl) ?_
    refine W.lcmp hx hb dX11_in_9 ?_
    refine lv_if_gt (tgt := 17) hx hb dX11_in_10 (by decide) (fun c2 => ?_) (fun c2 => ?_)
    · replace hf := ift_ hf c2
      refine lv_iconst (v := 0) hx hb dX11_in_17 (by decide) ?_
      obtain rfl := so1 hf
      exact kR _ _ _ _ hW (Or.inl rfl) dX11_in_18
    · replace hf := iff_ hf c2
      refine lv_iconst (v := 1) hx hb dX11_in_13 (by decide) ?_
      refine lv_goto (tgt := 18) hx hb dX11_in_14 (by decide) ?_
      obtain rfl := so1 hf
      exact kR _ _ _ _ hW (Or.inr rfl) dX11_in_18

abbrev rm_X11_rooms : Room := { frames := 1, cells := 0, slots := 0, locals := 60 }
set_option maxHeartbeats 4000000 in
set_option maxRecDepth 100000 in
theorem c_X11_rooms (l : Launch) (E : En) (S : St) (r : Int32) (hf : X11_rooms S  = some r) : Mi l E yX11_rooms cX11_rooms 1 (some .int) rm_X11_rooms [.ref (E.ad 60)] S r S := by
  refine g_startI (cc := cX11_rooms) (n := 1) (by decide) (Nat.le_of_ble_eq_true rfl) ?_
  intro p e s m args below meth c Q H locs C kR hW ls hl
  obtain ⟨⟨hx, hb, hml, hown, hts⟩, hK, hT⟩ := id C
  have hl : lv_has ls 1 [(0, .ref (E.ad 60))] := hl
  unfold X11_rooms at hf
  refine lv_aload_n hx hb dX11_rooms_0 rfl (lv_at hl 0 rfl) ?_
  refine g_get (ci := 11) (k := 0) (val := .ref (E.ad 61)) C g_us hW rfl rfl rfl (in_sid _ rfl) (by decide) f_RX11_7 rfl dX11_rooms_1 ?_
  refine lv_iconst (v := 0) hx hb dX11_rooms_4 (by decide) ?_
  replace hf := bd_so hf
  obtain ⟨x1, h2, hf⟩ := hf
  refine g_iald C hW h2 dX11_rooms_5 ?_
  obtain rfl := so1 hf
  exact kR _ _ _ _ hW dX11_rooms_6

abbrev rm_X11_isRoom : Room := { frames := 2, cells := 0, slots := 0, locals := 85 }
set_option maxHeartbeats 4000000 in
set_option maxRecDepth 100000 in
theorem c_X11_isRoom (l : Launch) (E : En) (S : St) (a1 : Int32) (r : Int32) (hf : X11_isRoom S a1 = some r) : Mi l E yX11_isRoom cX11_isRoom 2 (some .boolean) rm_X11_isRoom [.ref (E.ad 60), .int a1] S r S := by
  refine g_startZ (cc := cX11_isRoom) (n := 2) (by decide) (Nat.le_of_ble_eq_true rfl) ?_
  intro p e s m args below meth c Q H locs C kR hW ls hl
  obtain ⟨⟨hx, hb, hml, hown, hts⟩, hK, hT⟩ := id C
  have hl : lv_has ls 2 [(0, .ref (E.ad 60)), (1, .int a1)] := hl
  unfold X11_isRoom at hf
  refine lv_iload_n hx hb dX11_isRoom_0 rfl (lv_at hl 1 rfl) ?_
  refine lv_i2l (v := (a1 : Int32).toInt64) hx hb dX11_isRoom_1 rfl ?_
  refine lv_lconst (v := 0) hx hb dX11_isRoom_2 (by decide) ?_
  refine lv_aload_n hx hb dX11_isRoom_3 rfl (lv_at hl 0 rfl) ?_
  refine g_get (ci := 11) (k := 0) (val := .ref (E.ad 61)) C g_us hW rfl rfl rfl (in_sid _ rfl) (by decide) f_RX11_7 rfl dX11_isRoom_4 ?_
  refine lv_iconst (v := 0) hx hb dX11_isRoom_7 (by decide) ?_
  replace hf := bd_so hf
  obtain ⟨x1, h2, hf⟩ := hf
  refine g_iald C hW h2 dX11_isRoom_8 ?_
  refine lv_iconst (v := 1) hx hb dX11_isRoom_9 (by decide) ?_
  refine lv_isub hx hb dX11_isRoom_10 ?_
  refine lv_i2l (v := ((x1 - 1) : Int32).toInt64) hx hb dX11_isRoom_11 rfl ?_
  replace hf := bd_so hf
  obtain ⟨x4, h3, hf⟩ := hf
  refine g_callSi (As := [.long ((a1 : Int32).toInt64), .long 0, .long (((x1 - 1) : Int32).toInt64)]) (rest := []) C g_us hW hl.1 (c_X11_in l E S ((a1 : Int32).toInt64) 0 (((x1 - 1) : Int32).toInt64) _ h3) k_RX11_72 rfl ⟨rfl, rfl⟩ ⟨Nat.le_of_ble_eq_true rfl, Nat.le_of_ble_eq_true rfl⟩ ⟨Nat.zero_le _, Nat.zero_le _⟩ _ rfl (Nat.le_of_ble_eq_true rfl) dX11_isRoom_12 (fun H locs hW => ?_)
  obtain rfl := so1 hf
  exact kR _ _ _ _ hW (zb_X11_in h3) dX11_isRoom_15

abbrev rm_X11_of : Room := { frames := 1, cells := 0, slots := 0, locals := 60 }
set_option maxHeartbeats 4000000 in
set_option maxRecDepth 100000 in
theorem c_X11_of (l : Launch) (E : En) (S : St) (a1 : Int32) (a2 : Int32) (r : Int32) (hf : X11_of S a1 a2 = some r) : Mi l E yX11_of cX11_of 3 (some .int) rm_X11_of [.ref (E.ad 60), .int a1, .int a2] S r S := by
  refine g_startI (cc := cX11_of) (n := 3) (by decide) (Nat.le_of_ble_eq_true rfl) ?_
  intro p e s m args below meth c Q H locs C kR hW ls hl
  obtain ⟨⟨hx, hb, hml, hown, hts⟩, hK, hT⟩ := id C
  have hl : lv_has ls 3 [(0, .ref (E.ad 60)), (1, .int a1), (2, .int a2)] := hl
  unfold X11_of at hf
  refine lv_aload_n hx hb dX11_of_0 rfl (lv_at hl 0 rfl) ?_
  refine g_get (ci := 11) (k := 0) (val := .ref (E.ad 61)) C g_us hW rfl rfl rfl (in_sid _ rfl) (by decide) f_RX11_7 rfl dX11_of_1 ?_
  refine lv_bipush (v := 8) hx hb dX11_of_4 (by decide) ?_
  refine lv_bipush (v := 6) hx hb dX11_of_6 (by decide) ?_
  refine lv_iload_n hx hb dX11_of_8 rfl (lv_at hl 1 rfl) ?_
  refine lv_imul hx hb dX11_of_9 ?_
  refine lv_iadd hx hb dX11_of_10 ?_
  refine lv_iload_n hx hb dX11_of_11 rfl (lv_at hl 2 rfl) ?_
  refine lv_iadd hx hb dX11_of_12 ?_
  replace hf := bd_so hf
  obtain ⟨x1, h2, hf⟩ := hf
  refine g_iald C hW h2 dX11_of_13 ?_
  obtain rfl := so1 hf
  exact kR _ _ _ _ hW dX11_of_14

abbrev rm_X11_wireOf : Room := { frames := 1, cells := 0, slots := 0, locals := 60 }
set_option maxHeartbeats 4000000 in
set_option maxRecDepth 100000 in
theorem c_X11_wireOf (l : Launch) (E : En) (S : St) (a1 : Int32) (a2 : Int32) (r : Int32) (hf : X11_wireOf S a1 a2 = some r) : Mi l E yX11_wireOf cX11_wireOf 3 (some .int) rm_X11_wireOf [.ref (E.ad 60), .int a1, .int a2] S r S := by
  refine g_startI (cc := cX11_wireOf) (n := 3) (by decide) (Nat.le_of_ble_eq_true rfl) ?_
  intro p e s m args below meth c Q H locs C kR hW ls hl
  obtain ⟨⟨hx, hb, hml, hown, hts⟩, hK, hT⟩ := id C
  have hl : lv_has ls 3 [(0, .ref (E.ad 60)), (1, .int a1), (2, .int a2)] := hl
  unfold X11_wireOf at hf
  refine lv_aload_n hx hb dX11_wireOf_0 rfl (lv_at hl 0 rfl) ?_
  refine g_get (ci := 11) (k := 0) (val := .ref (E.ad 61)) C g_us hW rfl rfl rfl (in_sid _ rfl) (by decide) f_RX11_7 rfl dX11_wireOf_1 ?_
  refine lv_bipush (v := 64) hx hb dX11_wireOf_4 (by decide) ?_
  refine lv_bipush (v := 8) hx hb dX11_wireOf_6 (by decide) ?_
  refine lv_iload_n hx hb dX11_wireOf_8 rfl (lv_at hl 1 rfl) ?_
  refine lv_imul hx hb dX11_wireOf_9 ?_
  refine lv_iadd hx hb dX11_wireOf_10 ?_
  refine lv_iload_n hx hb dX11_wireOf_11 rfl (lv_at hl 2 rfl) ?_
  refine lv_iadd hx hb dX11_wireOf_12 ?_
  replace hf := bd_so hf
  obtain ⟨x1, h2, hf⟩ := hf
  refine g_iald C hW h2 dX11_wireOf_13 ?_
  obtain rfl := so1 hf
  exact kR _ _ _ _ hW dX11_wireOf_14

abbrev rm_X11_sings : Room := { frames := 2, cells := 0, slots := 0, locals := 82 }
set_option maxHeartbeats 4000000 in
set_option maxRecDepth 100000 in
theorem c_X11_sings (l : Launch) (E : En) (S : St) (a1 : Int32) (r : Int32) (hf : X11_sings S a1 = some r) : Mi l E yX11_sings cX11_sings 2 (some .boolean) rm_X11_sings [.ref (E.ad 60), .int a1] S r S := by
  refine g_startZ (cc := cX11_sings) (n := 2) (by decide) (Nat.le_of_ble_eq_true rfl) ?_
  intro p e s m args below meth c Q H locs C kR hW ls hl
  obtain ⟨⟨hx, hb, hml, hown, hts⟩, hK, hT⟩ := id C
  have hl : lv_has ls 2 [(0, .ref (E.ad 60)), (1, .int a1)] := hl
  unfold X11_sings at hf
  refine lv_aload_n hx hb dX11_sings_0 rfl (lv_at hl 0 rfl) ?_
  refine lv_iload_n hx hb dX11_sings_1 rfl (lv_at hl 1 rfl) ?_
  refine lv_iconst (v := 0) hx hb dX11_sings_2 (by decide) ?_
  replace hf := bd_so hf
  obtain ⟨x2, h1, hf⟩ := hf
  refine g_callVi (ci := 11) (As := [.int a1, .int 0]) (rest := []) C g_us hW hl.1 (c_X11_of l E S a1 0 _ h1) rfl rfl rfl (in_sid _ rfl) k_RX11_76 rfl ⟨rfl, rfl⟩ ⟨Nat.le_of_ble_eq_true rfl, Nat.le_of_ble_eq_true rfl⟩ ⟨Nat.zero_le _, Nat.zero_le _⟩ _ rfl (Nat.le_of_ble_eq_true rfl) dX11_sings_3 (fun H locs hW => ?_)
  refine lv_iconst (v := 4) hx hb dX11_sings_6 (by decide) ?_
  refine lv_icmp_ge (tgt := 14) hx hb dX11_sings_7 (by decide) (fun c3 => ?_) (fun c3 => ?_)
  · replace hf := ift_ hf c3
    refine lv_iconst (v := 0) hx hb dX11_sings_14 (by decide) ?_
    obtain rfl := so1 hf
    exact kR _ _ _ _ hW (Or.inl rfl) dX11_sings_15
  · replace hf := iff_ hf c3
    refine lv_iconst (v := 1) hx hb dX11_sings_10 (by decide) ?_
    refine lv_goto (tgt := 15) hx hb dX11_sings_11 (by decide) ?_
    obtain rfl := so1 hf
    exact kR _ _ _ _ hW (Or.inr rfl) dX11_sings_15

abbrev rm_X11_isCut : Room := { frames := 2, cells := 0, slots := 0, locals := 82 }
set_option maxHeartbeats 4000000 in
set_option maxRecDepth 100000 in
theorem c_X11_isCut (l : Launch) (E : En) (S : St) (a1 : Int32) (r : Int32) (hf : X11_isCut S a1 = some r) : Mi l E yX11_isCut cX11_isCut 2 (some .boolean) rm_X11_isCut [.ref (E.ad 60), .int a1] S r S := by
  refine g_startZ (cc := cX11_isCut) (n := 2) (by decide) (Nat.le_of_ble_eq_true rfl) ?_
  intro p e s m args below meth c Q H locs C kR hW ls hl
  obtain ⟨⟨hx, hb, hml, hown, hts⟩, hK, hT⟩ := id C
  have hl : lv_has ls 2 [(0, .ref (E.ad 60)), (1, .int a1)] := hl
  unfold X11_isCut at hf
  refine lv_aload_n hx hb dX11_isCut_0 rfl (lv_at hl 0 rfl) ?_
  refine lv_iload_n hx hb dX11_isCut_1 rfl (lv_at hl 1 rfl) ?_
  refine lv_iconst (v := 0) hx hb dX11_isCut_2 (by decide) ?_
  replace hf := bd_so hf
  obtain ⟨x2, h1, hf⟩ := hf
  refine g_callVi (ci := 11) (As := [.int a1, .int 0]) (rest := []) C g_us hW hl.1 (c_X11_of l E S a1 0 _ h1) rfl rfl rfl (in_sid _ rfl) k_RX11_76 rfl ⟨rfl, rfl⟩ ⟨Nat.le_of_ble_eq_true rfl, Nat.le_of_ble_eq_true rfl⟩ ⟨Nat.zero_le _, Nat.zero_le _⟩ _ rfl (Nat.le_of_ble_eq_true rfl) dX11_isCut_3 (fun H locs hW => ?_)
  refine lv_iconst (v := 5) hx hb dX11_isCut_6 (by decide) ?_
  refine lv_icmp_ne (tgt := 14) hx hb dX11_isCut_7 (by decide) (fun c3 => ?_) (fun c3 => ?_)
  · replace hf := iff_ hf c3
    refine lv_iconst (v := 0) hx hb dX11_isCut_14 (by decide) ?_
    obtain rfl := so1 hf
    exact kR _ _ _ _ hW (Or.inl rfl) dX11_isCut_15
  · replace hf := ift_ hf c3
    refine lv_iconst (v := 1) hx hb dX11_isCut_10 (by decide) ?_
    refine lv_goto (tgt := 15) hx hb dX11_isCut_11 (by decide) ?_
    obtain rfl := so1 hf
    exact kR _ _ _ _ hW (Or.inr rfl) dX11_isCut_15

abbrev rm_X11_highest : Room := { frames := 1, cells := 0, slots := 0, locals := 60 }
set_option maxHeartbeats 4000000 in
set_option maxRecDepth 100000 in
theorem c_X11_highest (l : Launch) (E : En) (S : St) (a0 : Int32) (r : Int32) (hf : X11_highest S a0 = some r) : Mi l E yX11_highest cX11_highest 1 (some .int) rm_X11_highest [.int a0] S r S := by
  refine g_startI (cc := cX11_highest) (n := 1) (by decide) (Nat.le_of_ble_eq_true rfl) ?_
  intro p e s m args below meth c Q H locs C kR hW ls hl
  obtain ⟨⟨hx, hb, hml, hown, hts⟩, hK, hT⟩ := id C
  have hl : lv_has ls 1 [(0, .int a0)] := hl
  unfold X11_highest at hf
  refine lv_iload_n hx hb dX11_highest_0 rfl (lv_at hl 0 rfl) ?_
  refine lv_if_ne (tgt := 8) hx hb dX11_highest_1 (by decide) (fun c1 => ?_) (fun c1 => ?_)
  · replace hf := iff_ hf c1
    refine lv_iload_n hx hb dX11_highest_8 rfl (lv_at hl 0 rfl) ?_
    refine lv_iconst (v := 1) hx hb dX11_highest_9 (by decide) ?_
    refine lv_icmp_ne (tgt := 18) hx hb dX11_highest_10 (by decide) (fun c2 => ?_) (fun c2 => ?_)
    · replace hf := iff_ hf c2
      refine lv_iload_n hx hb dX11_highest_18 rfl (lv_at hl 0 rfl) ?_
      refine lv_iconst (v := 2) hx hb dX11_highest_19 (by decide) ?_
      refine lv_icmp_ne (tgt := 28) hx hb dX11_highest_20 (by decide) (fun c3 => ?_) (fun c3 => ?_)
      · replace hf := iff_ hf c3
        refine lv_iload_n hx hb dX11_highest_28 rfl (lv_at hl 0 rfl) ?_
        refine lv_iconst (v := 3) hx hb dX11_highest_29 (by decide) ?_
        refine lv_icmp_ne (tgt := 39) hx hb dX11_highest_30 (by decide) (fun c4 => ?_) (fun c4 => ?_)
        · replace hf := iff_ hf c4
          refine lv_iload_n hx hb dX11_highest_39 rfl (lv_at hl 0 rfl) ?_
          refine lv_iconst (v := 4) hx hb dX11_highest_40 (by decide) ?_
          refine lv_icmp_ne (tgt := 50) hx hb dX11_highest_41 (by decide) (fun c5 => ?_) (fun c5 => ?_)
          · replace hf := iff_ hf c5
            refine lv_bipush (v := 63) hx hb dX11_highest_50 (by decide) ?_
            obtain rfl := so1 hf
            exact kR _ _ _ _ hW dX11_highest_52
          · replace hf := ift_ hf c5
            refine lv_sipush (v := 400) hx hb dX11_highest_44 (by decide) ?_
            refine lv_goto (tgt := 52) hx hb dX11_highest_47 (by decide) ?_
            obtain rfl := so1 hf
            exact kR _ _ _ _ hW dX11_highest_52
        · replace hf := ift_ hf c4
          refine lv_sipush (v := 999) hx hb dX11_highest_33 (by decide) ?_
          refine lv_goto (tgt := 52) hx hb dX11_highest_36 (by decide) ?_
          obtain rfl := so1 hf
          exact kR _ _ _ _ hW dX11_highest_52
      · replace hf := ift_ hf c3
        refine lv_bipush (v := 100) hx hb dX11_highest_23 (by decide) ?_
        refine lv_goto (tgt := 52) hx hb dX11_highest_25 (by decide) ?_
        obtain rfl := so1 hf
        exact kR _ _ _ _ hW dX11_highest_52
    · replace hf := ift_ hf c2
      refine lv_bipush (v := 99) hx hb dX11_highest_13 (by decide) ?_
      refine lv_goto (tgt := 52) hx hb dX11_highest_15 (by decide) ?_
      obtain rfl := so1 hf
      exact kR _ _ _ _ hW dX11_highest_52
  · replace hf := ift_ hf c1
    refine lv_iconst (v := 5) hx hb dX11_highest_4 (by decide) ?_
    refine lv_goto (tgt := 52) hx hb dX11_highest_5 (by decide) ?_
    obtain rfl := so1 hf
    exact kR _ _ _ _ hW dX11_highest_52

abbrev rm_X11_room : Room := { frames := 2, cells := 0, slots := 0, locals := 85 }
set_option maxHeartbeats 4000000 in
set_option maxRecDepth 100000 in
theorem c_X11_room (l : Launch) (E : En) (S : St) (a1 : Int32) (r : Int32) (S1 : St) (hf : X11_room S a1 = some (r, S1)) : Mi l E yX11_room cX11_room 3 (some .int) rm_X11_room [.ref (E.ad 60), .int a1] S r S1 := by
  refine g_startI (cc := cX11_room) (n := 3) (by decide) (Nat.le_of_ble_eq_true rfl) ?_
  intro p e s m args below meth c Q H locs C kR hW ls hl
  obtain ⟨⟨hx, hb, hml, hown, hts⟩, hK, hT⟩ := id C
  have hl : lv_has ls 3 [(0, .ref (E.ad 60)), (1, .int a1)] := hl
  unfold X11_room at hf
  refine lv_iload_n hx hb dX11_room_0 rfl (lv_at hl 1 rfl) ?_
  refine lv_i2l (v := (a1 : Int32).toInt64) hx hb dX11_room_1 rfl ?_
  refine lv_lconst (v := 0) hx hb dX11_room_2 (by decide) ?_
  refine lv_ldc2 hx hb hown (hts _ (g_us _ q_RX11_80)) dX11_room_3 ?_
  replace hf := bd_so hf
  obtain ⟨x2, h1, hf⟩ := hf
  refine g_callSi (As := [.long ((a1 : Int32).toInt64), .long 0, .long 5]) (rest := []) C g_us hW hl.1 (c_X11_in l E S ((a1 : Int32).toInt64) 0 5 _ h1) k_RX11_72 rfl ⟨rfl, rfl⟩ ⟨Nat.le_of_ble_eq_true rfl, Nat.le_of_ble_eq_true rfl⟩ ⟨Nat.zero_le _, Nat.zero_le _⟩ _ rfl (Nat.le_of_ble_eq_true rfl) dX11_room_6 (fun H locs hW => ?_)
  refine lv_if_ne (tgt := 14) hx hb dX11_room_9 (by decide) (fun c3 => ?_) (fun c3 => ?_)
  · replace hf := iff_ hf c3
    refine lv_aload_n hx hb dX11_room_14 rfl (lv_at hl 0 rfl) ?_
    replace hf := bd_so hf
    obtain ⟨x5, h4, hf⟩ := hf
    refine g_callVi (ci := 11) (As := []) (rest := []) C g_us hW hl.1 (c_X11_rooms l E S  _ h4) rfl rfl rfl (in_sid _ rfl) k_RX11_82 rfl ⟨rfl, rfl⟩ ⟨Nat.le_of_ble_eq_true rfl, Nat.le_of_ble_eq_true rfl⟩ ⟨Nat.zero_le _, Nat.zero_le _⟩ _ rfl (Nat.le_of_ble_eq_true rfl) dX11_room_15 (fun H locs hW => ?_)
    refine lv_bipush (v := 8) hx hb dX11_room_18 (by decide) ?_
    refine lv_icmp_ne (tgt := 26) hx hb dX11_room_20 (by decide) (fun c6 => ?_) (fun c6 => ?_)
    · replace hf := iff_ hf c6
      refine lv_bipush (v := 8) hx hb dX11_room_26 (by decide) ?_
      refine lv_bipush (v := 6) hx hb dX11_room_28 (by decide) ?_
      refine lv_aload_n hx hb dX11_room_30 rfl (lv_at hl 0 rfl) ?_
      replace hf := bd_so hf
      obtain ⟨x8, h7, hf⟩ := hf
      refine g_callVi (ci := 11) (As := []) (rest := [.int 6, .int 8]) C g_us hW hl.1 (c_X11_rooms l E S  _ h7) rfl rfl rfl (in_sid _ rfl) k_RX11_82 rfl ⟨rfl, rfl⟩ ⟨Nat.le_of_ble_eq_true rfl, Nat.le_of_ble_eq_true rfl⟩ ⟨Nat.zero_le _, Nat.zero_le _⟩ _ rfl (Nat.le_of_ble_eq_true rfl) dX11_room_31 (fun H locs hW => ?_)
      refine lv_imul hx hb dX11_room_34 ?_
      refine lv_iadd hx hb dX11_room_35 ?_
      refine lv_istore_n (lv' := [(2, .int (8 + (6 * x8))), (0, .ref (E.ad 60)), (1, .int a1)]) hx hb dX11_room_36 rfl hl (by decide) rfl (fun ls hl => ?_)
      refine lv_aload_n hx hb dX11_room_37 rfl (lv_at hl 1 rfl) ?_
      refine g_get (ci := 11) (k := 0) (val := .ref (E.ad 61)) C g_us hW rfl rfl rfl (in_sid _ rfl) (by decide) f_RX11_7 rfl dX11_room_38 ?_
      refine lv_iload_n hx hb dX11_room_41 rfl (lv_at hl 0 rfl) ?_
      refine lv_iload_n hx hb dX11_room_42 rfl (lv_at hl 2 rfl) ?_
      replace hf := bd_so hf
      obtain ⟨S9, h10, hf⟩ := hf
      refine g_iast C hW h10 dX11_room_43 (fun H locs hW => ?_)
      refine lv_aload_n hx hb dX11_room_44 rfl (lv_at hl 1 rfl) ?_
      refine g_get (ci := 11) (k := 0) (val := .ref (E.ad 61)) C g_us hW rfl rfl rfl (in_sid _ rfl) (by decide) f_RX11_7 rfl dX11_room_45 ?_
      refine lv_iload_n hx hb dX11_room_48 rfl (lv_at hl 0 rfl) ?_
      refine lv_iconst (v := 1) hx hb dX11_room_49 (by decide) ?_
      refine lv_iadd hx hb dX11_room_50 ?_
      refine lv_bipush (v := 10) hx hb dX11_room_51 (by decide) ?_
      replace hf := bd_so hf
      obtain ⟨S11, h12, hf⟩ := hf
      refine g_iast C hW h12 dX11_room_53 (fun H locs hW => ?_)
      refine lv_aload_n hx hb dX11_room_54 rfl (lv_at hl 1 rfl) ?_
      refine g_get (ci := 11) (k := 0) (val := .ref (E.ad 61)) C g_us hW rfl rfl rfl (in_sid _ rfl) (by decide) f_RX11_7 rfl dX11_room_55 ?_
      refine lv_iload_n hx hb dX11_room_58 rfl (lv_at hl 0 rfl) ?_
      refine lv_iconst (v := 2) hx hb dX11_room_59 (by decide) ?_
      refine lv_iadd hx hb dX11_room_60 ?_
      refine lv_bipush (v := 50) hx hb dX11_room_61 (by decide) ?_
      replace hf := bd_so hf
      obtain ⟨S13, h14, hf⟩ := hf
      refine g_iast C hW h14 dX11_room_63 (fun H locs hW => ?_)
      refine lv_aload_n hx hb dX11_room_64 rfl (lv_at hl 1 rfl) ?_
      refine g_get (ci := 11) (k := 0) (val := .ref (E.ad 61)) C g_us hW rfl rfl rfl (in_sid _ rfl) (by decide) f_RX11_7 rfl dX11_room_65 ?_
      refine lv_iconst (v := 0) hx hb dX11_room_68 (by decide) ?_
      refine lv_dup2_11 hx hb dX11_room_69 rfl rfl ?_
      replace hf := bd_so hf
      obtain ⟨x15, h16, hf⟩ := hf
      refine g_iald C hW h16 dX11_room_70 ?_
      refine lv_iconst (v := 1) hx hb dX11_room_71 (by decide) ?_
      refine lv_iadd hx hb dX11_room_72 ?_
      replace hf := bd_so hf
      obtain ⟨S17, h18, hf⟩ := hf
      refine g_iast C hW h18 dX11_room_73 (fun H locs hW => ?_)
      refine lv_aload_n hx hb dX11_room_74 rfl (lv_at hl 1 rfl) ?_
      replace hf := bd_so hf
      obtain ⟨x20, h19, hf⟩ := hf
      refine g_callVi (ci := 11) (As := []) (rest := []) C g_us hW hl.1 (c_X11_rooms l E S17  _ h19) rfl rfl rfl (in_sid _ rfl) k_RX11_82 rfl ⟨rfl, rfl⟩ ⟨Nat.le_of_ble_eq_true rfl, Nat.le_of_ble_eq_true rfl⟩ ⟨Nat.zero_le _, Nat.zero_le _⟩ _ rfl (Nat.le_of_ble_eq_true rfl) dX11_room_75 (fun H locs hW => ?_)
      refine lv_iconst (v := 1) hx hb dX11_room_78 (by decide) ?_
      refine lv_isub hx hb dX11_room_79 ?_
      obtain ⟨rfl, rfl⟩ := so2 hf
      exact kR _ _ _ _ hW dX11_room_80
    · replace hf := ift_ hf c6
      refine lv_bipush (v := (-3)) hx hb dX11_room_23 (by decide) ?_
      obtain ⟨rfl, rfl⟩ := so2 hf
      exact kR _ _ _ _ hW dX11_room_25
  · replace hf := ift_ hf c3
    refine lv_iconst (v := (-1)) hx hb dX11_room_12 (by decide) ?_
    obtain ⟨rfl, rfl⟩ := so2 hf
    exact kR _ _ _ _ hW dX11_room_13

abbrev rm_X11_set : Room := { frames := 3, cells := 0, slots := 0, locals := 106 }
set_option maxHeartbeats 4000000 in
set_option maxRecDepth 100000 in
theorem c_X11_set (l : Launch) (E : En) (S : St) (a1 : Int32) (a2 : Int32) (a3 : Int32) (r : Int32) (S1 : St) (hf : X11_set S a1 a2 a3 = some (r, S1)) : Mi l E yX11_set cX11_set 5 (some .int) rm_X11_set [.ref (E.ad 60), .int a1, .int a2, .int a3] S r S1 := by
  refine g_startI (cc := cX11_set) (n := 5) (by decide) (Nat.le_of_ble_eq_true rfl) ?_
  intro p e s m args below meth c Q H locs C kR hW ls hl
  obtain ⟨⟨hx, hb, hml, hown, hts⟩, hK, hT⟩ := id C
  have hl : lv_has ls 5 [(0, .ref (E.ad 60)), (1, .int a1), (2, .int a2), (3, .int a3)] := hl
  unfold X11_set at hf
  refine lv_aload_n hx hb dX11_set_0 rfl (lv_at hl 0 rfl) ?_
  refine lv_iload_n hx hb dX11_set_1 rfl (lv_at hl 1 rfl) ?_
  replace hf := bd_so hf
  obtain ⟨x2, h1, hf⟩ := hf
  refine g_callVi (ci := 11) (As := [.int a1]) (rest := []) C g_us hW hl.1 (c_X11_isRoom l E S a1 _ h1) rfl rfl rfl (in_sid _ rfl) k_RX11_86 rfl ⟨rfl, rfl⟩ ⟨Nat.le_of_ble_eq_true rfl, Nat.le_of_ble_eq_true rfl⟩ ⟨Nat.zero_le _, Nat.zero_le _⟩ _ rfl (Nat.le_of_ble_eq_true rfl) dX11_set_2 (fun H locs hW => ?_)
  refine lv_if_eq (tgt := 34) hx hb dX11_set_5 (by decide) (fun c3 => ?_) (fun c3 => ?_)
  · replace hf := ift_ hf c3
    refine lv_iconst (v := (-1)) hx hb dX11_set_34 (by decide) ?_
    obtain ⟨rfl, rfl⟩ := so2 hf
    exact kR _ _ _ _ hW dX11_set_35
  · replace hf := iff_ hf c3
    refine lv_iload_n hx hb dX11_set_8 rfl (lv_at hl 2 rfl) ?_
    refine lv_i2l (v := (a2 : Int32).toInt64) hx hb dX11_set_9 rfl ?_
    refine lv_lconst (v := 0) hx hb dX11_set_10 (by decide) ?_
    refine lv_ldc2 hx hb hown (hts _ (g_us _ q_RX11_80)) dX11_set_11 ?_
    replace hf := bd_so hf
    obtain ⟨x5, h4, hf⟩ := hf
    refine g_callSi (As := [.long ((a2 : Int32).toInt64), .long 0, .long 5]) (rest := []) C g_us hW hl.1 (c_X11_in l E S ((a2 : Int32).toInt64) 0 5 _ h4) k_RX11_72 rfl ⟨rfl, rfl⟩ ⟨Nat.le_of_ble_eq_true rfl, Nat.le_of_ble_eq_true rfl⟩ ⟨Nat.zero_le _, Nat.zero_le _⟩ _ rfl (Nat.le_of_ble_eq_true rfl) dX11_set_14 (fun H locs hW => ?_)
    refine lv_if_eq (tgt := 34) hx hb dX11_set_17 (by decide) (fun c6 => ?_) (fun c6 => ?_)
    · replace hf := ift_ hf c6
      refine lv_iconst (v := (-1)) hx hb dX11_set_34 (by decide) ?_
      obtain ⟨rfl, rfl⟩ := so2 hf
      exact kR _ _ _ _ hW dX11_set_35
    · replace hf := iff_ hf c6
      refine lv_iload_n hx hb dX11_set_20 rfl (lv_at hl 3 rfl) ?_
      refine lv_i2l (v := (a3 : Int32).toInt64) hx hb dX11_set_21 rfl ?_
      refine lv_lconst (v := 0) hx hb dX11_set_22 (by decide) ?_
      refine lv_iload_n hx hb dX11_set_23 rfl (lv_at hl 2 rfl) ?_
      replace hf := bd_so hf
      obtain ⟨x8, h7, hf⟩ := hf
      refine g_callSi (As := [.int a2]) (rest := [.long 0, .long ((a3 : Int32).toInt64)]) C g_us hW hl.1 (c_X11_highest l E S a2 _ h7) k_RX11_90 rfl ⟨rfl, rfl⟩ ⟨Nat.le_of_ble_eq_true rfl, Nat.le_of_ble_eq_true rfl⟩ ⟨Nat.zero_le _, Nat.zero_le _⟩ _ rfl (Nat.le_of_ble_eq_true rfl) dX11_set_24 (fun H locs hW => ?_)
      refine lv_i2l (v := (x8 : Int32).toInt64) hx hb dX11_set_27 rfl ?_
      replace hf := bd_so hf
      obtain ⟨x10, h9, hf⟩ := hf
      refine g_callSi (As := [.long ((a3 : Int32).toInt64), .long 0, .long ((x8 : Int32).toInt64)]) (rest := []) C g_us hW hl.1 (c_X11_in l E S ((a3 : Int32).toInt64) 0 ((x8 : Int32).toInt64) _ h9) k_RX11_72 rfl ⟨rfl, rfl⟩ ⟨Nat.le_of_ble_eq_true rfl, Nat.le_of_ble_eq_true rfl⟩ ⟨Nat.zero_le _, Nat.zero_le _⟩ _ rfl (Nat.le_of_ble_eq_true rfl) dX11_set_28 (fun H locs hW => ?_)
      refine lv_if_ne (tgt := 36) hx hb dX11_set_31 (by decide) (fun c11 => ?_) (fun c11 => ?_)
      · replace hf := iff_ hf c11
        refine lv_aload_n hx hb dX11_set_36 rfl (lv_at hl 0 rfl) ?_
        refine lv_iload_n hx hb dX11_set_37 rfl (lv_at hl 1 rfl) ?_
        refine lv_iload_n hx hb dX11_set_38 rfl (lv_at hl 2 rfl) ?_
        replace hf := bd_so hf
        obtain ⟨x13, h12, hf⟩ := hf
        refine g_callVi (ci := 11) (As := [.int a1, .int a2]) (rest := []) C g_us hW hl.1 (c_X11_of l E S a1 a2 _ h12) rfl rfl rfl (in_sid _ rfl) k_RX11_76 rfl ⟨rfl, rfl⟩ ⟨Nat.le_of_ble_eq_true rfl, Nat.le_of_ble_eq_true rfl⟩ ⟨Nat.zero_le _, Nat.zero_le _⟩ _ rfl (Nat.le_of_ble_eq_true rfl) dX11_set_39 (fun H locs hW => ?_)
        refine lv_istore (lv' := [(4, .int x13), (0, .ref (E.ad 60)), (1, .int a1), (2, .int a2), (3, .int a3)]) hx hb dX11_set_42 hl (by decide) rfl (fun ls hl => ?_)
        refine lv_aload_n hx hb dX11_set_44 rfl (lv_at hl 1 rfl) ?_
        refine g_get (ci := 11) (k := 0) (val := .ref (E.ad 61)) C g_us hW rfl rfl rfl (in_sid _ rfl) (by decide) f_RX11_7 rfl dX11_set_45 ?_
        refine lv_bipush (v := 8) hx hb dX11_set_48 (by decide) ?_
        refine lv_bipush (v := 6) hx hb dX11_set_50 (by decide) ?_
        refine lv_iload_n hx hb dX11_set_52 rfl (lv_at hl 2 rfl) ?_
        refine lv_imul hx hb dX11_set_53 ?_
        refine lv_iadd hx hb dX11_set_54 ?_
        refine lv_iload_n hx hb dX11_set_55 rfl (lv_at hl 3 rfl) ?_
        refine lv_iadd hx hb dX11_set_56 ?_
        refine lv_iload_n hx hb dX11_set_57 rfl (lv_at hl 4 rfl) ?_
        replace hf := bd_so hf
        obtain ⟨S14, h15, hf⟩ := hf
        refine g_iast C hW h15 dX11_set_58 (fun H locs hW => ?_)
        refine lv_iload hx hb dX11_set_59 (lv_at hl 0 rfl) ?_
        obtain ⟨rfl, rfl⟩ := so2 hf
        exact kR _ _ _ _ hW dX11_set_61
      · replace hf := ift_ hf c11
        refine lv_iconst (v := (-1)) hx hb dX11_set_34 (by decide) ?_
        obtain ⟨rfl, rfl⟩ := so2 hf
        exact kR _ _ _ _ hW dX11_set_35

abbrev rm_X11_wire : Room := { frames := 3, cells := 0, slots := 0, locals := 106 }
set_option maxHeartbeats 4000000 in
set_option maxRecDepth 100000 in
theorem c_X11_wire (l : Launch) (E : En) (S : St) (a1 : Int32) (a2 : Int32) (a3 : Int32) (r : Int32) (S1 : St) (hf : X11_wire S a1 a2 a3 = some (r, S1)) : Mi l E yX11_wire cX11_wire 5 (some .int) rm_X11_wire [.ref (E.ad 60), .int a1, .int a2, .int a3] S r S1 := by
  refine g_startI (cc := cX11_wire) (n := 5) (by decide) (Nat.le_of_ble_eq_true rfl) ?_
  intro p e s m args below meth c Q H locs C kR hW ls hl
  obtain ⟨⟨hx, hb, hml, hown, hts⟩, hK, hT⟩ := id C
  have hl : lv_has ls 5 [(0, .ref (E.ad 60)), (1, .int a1), (2, .int a2), (3, .int a3)] := hl
  unfold X11_wire at hf
  refine lv_aload_n hx hb dX11_wire_0 rfl (lv_at hl 0 rfl) ?_
  refine lv_iload_n hx hb dX11_wire_1 rfl (lv_at hl 1 rfl) ?_
  replace hf := bd_so hf
  obtain ⟨x2, h1, hf⟩ := hf
  refine g_callVi (ci := 11) (As := [.int a1]) (rest := []) C g_us hW hl.1 (c_X11_isRoom l E S a1 _ h1) rfl rfl rfl (in_sid _ rfl) k_RX11_86 rfl ⟨rfl, rfl⟩ ⟨Nat.le_of_ble_eq_true rfl, Nat.le_of_ble_eq_true rfl⟩ ⟨Nat.zero_le _, Nat.zero_le _⟩ _ rfl (Nat.le_of_ble_eq_true rfl) dX11_wire_2 (fun H locs hW => ?_)
  refine lv_if_eq (tgt := 33) hx hb dX11_wire_5 (by decide) (fun c3 => ?_) (fun c3 => ?_)
  · replace hf := ift_ hf c3
    refine lv_iconst (v := (-1)) hx hb dX11_wire_33 (by decide) ?_
    obtain ⟨rfl, rfl⟩ := so2 hf
    exact kR _ _ _ _ hW dX11_wire_34
  · replace hf := iff_ hf c3
    refine lv_aload_n hx hb dX11_wire_8 rfl (lv_at hl 0 rfl) ?_
    refine lv_iload_n hx hb dX11_wire_9 rfl (lv_at hl 2 rfl) ?_
    replace hf := bd_so hf
    obtain ⟨x5, h4, hf⟩ := hf
    refine g_callVi (ci := 11) (As := [.int a2]) (rest := []) C g_us hW hl.1 (c_X11_isRoom l E S a2 _ h4) rfl rfl rfl (in_sid _ rfl) k_RX11_86 rfl ⟨rfl, rfl⟩ ⟨Nat.le_of_ble_eq_true rfl, Nat.le_of_ble_eq_true rfl⟩ ⟨Nat.zero_le _, Nat.zero_le _⟩ _ rfl (Nat.le_of_ble_eq_true rfl) dX11_wire_10 (fun H locs hW => ?_)
    refine lv_if_eq (tgt := 33) hx hb dX11_wire_13 (by decide) (fun c6 => ?_) (fun c6 => ?_)
    · replace hf := ift_ hf c6
      refine lv_iconst (v := (-1)) hx hb dX11_wire_33 (by decide) ?_
      obtain ⟨rfl, rfl⟩ := so2 hf
      exact kR _ _ _ _ hW dX11_wire_34
    · replace hf := iff_ hf c6
      refine lv_iload_n hx hb dX11_wire_16 rfl (lv_at hl 1 rfl) ?_
      refine lv_iload_n hx hb dX11_wire_17 rfl (lv_at hl 2 rfl) ?_
      refine lv_icmp_eq (tgt := 33) hx hb dX11_wire_18 (by decide) (fun c7 => ?_) (fun c7 => ?_)
      · replace hf := ift_ hf c7
        refine lv_iconst (v := (-1)) hx hb dX11_wire_33 (by decide) ?_
        obtain ⟨rfl, rfl⟩ := so2 hf
        exact kR _ _ _ _ hW dX11_wire_34
      · replace hf := iff_ hf c7
        refine lv_iload_n hx hb dX11_wire_21 rfl (lv_at hl 3 rfl) ?_
        refine lv_i2l (v := (a3 : Int32).toInt64) hx hb dX11_wire_22 rfl ?_
        refine lv_lconst (v := 0) hx hb dX11_wire_23 (by decide) ?_
        refine lv_ldc2 hx hb hown (hts _ (g_us _ q_RX11_94)) dX11_wire_24 ?_
        replace hf := bd_so hf
        obtain ⟨x9, h8, hf⟩ := hf
        refine g_callSi (As := [.long ((a3 : Int32).toInt64), .long 0, .long 400]) (rest := []) C g_us hW hl.1 (c_X11_in l E S ((a3 : Int32).toInt64) 0 400 _ h8) k_RX11_72 rfl ⟨rfl, rfl⟩ ⟨Nat.le_of_ble_eq_true rfl, Nat.le_of_ble_eq_true rfl⟩ ⟨Nat.zero_le _, Nat.zero_le _⟩ _ rfl (Nat.le_of_ble_eq_true rfl) dX11_wire_27 (fun H locs hW => ?_)
        refine lv_if_ne (tgt := 35) hx hb dX11_wire_30 (by decide) (fun c10 => ?_) (fun c10 => ?_)
        · replace hf := iff_ hf c10
          refine lv_aload_n hx hb dX11_wire_35 rfl (lv_at hl 0 rfl) ?_
          refine lv_iload_n hx hb dX11_wire_36 rfl (lv_at hl 1 rfl) ?_
          refine lv_iload_n hx hb dX11_wire_37 rfl (lv_at hl 2 rfl) ?_
          replace hf := bd_so hf
          obtain ⟨x12, h11, hf⟩ := hf
          refine g_callVi (ci := 11) (As := [.int a1, .int a2]) (rest := []) C g_us hW hl.1 (c_X11_wireOf l E S a1 a2 _ h11) rfl rfl rfl (in_sid _ rfl) k_RX11_96 rfl ⟨rfl, rfl⟩ ⟨Nat.le_of_ble_eq_true rfl, Nat.le_of_ble_eq_true rfl⟩ ⟨Nat.zero_le _, Nat.zero_le _⟩ _ rfl (Nat.le_of_ble_eq_true rfl) dX11_wire_38 (fun H locs hW => ?_)
          refine lv_istore (lv' := [(4, .int x12), (0, .ref (E.ad 60)), (1, .int a1), (2, .int a2), (3, .int a3)]) hx hb dX11_wire_41 hl (by decide) rfl (fun ls hl => ?_)
          refine lv_aload_n hx hb dX11_wire_43 rfl (lv_at hl 1 rfl) ?_
          refine g_get (ci := 11) (k := 0) (val := .ref (E.ad 61)) C g_us hW rfl rfl rfl (in_sid _ rfl) (by decide) f_RX11_7 rfl dX11_wire_44 ?_
          refine lv_bipush (v := 64) hx hb dX11_wire_47 (by decide) ?_
          refine lv_bipush (v := 8) hx hb dX11_wire_49 (by decide) ?_
          refine lv_iload_n hx hb dX11_wire_51 rfl (lv_at hl 2 rfl) ?_
          refine lv_imul hx hb dX11_wire_52 ?_
          refine lv_iadd hx hb dX11_wire_53 ?_
          refine lv_iload_n hx hb dX11_wire_54 rfl (lv_at hl 3 rfl) ?_
          refine lv_iadd hx hb dX11_wire_55 ?_
          refine lv_iload_n hx hb dX11_wire_56 rfl (lv_at hl 4 rfl) ?_
          replace hf := bd_so hf
          obtain ⟨S13, h14, hf⟩ := hf
          refine g_iast C hW h14 dX11_wire_57 (fun H locs hW => ?_)
          refine lv_iload hx hb dX11_wire_58 (lv_at hl 0 rfl) ?_
          obtain ⟨rfl, rfl⟩ := so2 hf
          exact kR _ _ _ _ hW dX11_wire_60
        · replace hf := ift_ hf c10
          refine lv_iconst (v := (-1)) hx hb dX11_wire_33 (by decide) ?_
          obtain ⟨rfl, rfl⟩ := so2 hf
          exact kR _ _ _ _ hW dX11_wire_34

abbrev rm_X11_isSheet : Room := { frames := 2, cells := 0, slots := 0, locals := 85 }
set_option maxHeartbeats 4000000 in
set_option maxRecDepth 100000 in
theorem c_X11_isSheet (l : Launch) (E : En) (S : St) (a0 : Int32) (r : Int32) (hf : X11_isSheet S a0 = some r) : Mi l E yX11_isSheet cX11_isSheet 1 (some .boolean) rm_X11_isSheet [.int a0] S r S := by
  refine g_startZ (cc := cX11_isSheet) (n := 1) (by decide) (Nat.le_of_ble_eq_true rfl) ?_
  intro p e s m args below meth c Q H locs C kR hW ls hl
  obtain ⟨⟨hx, hb, hml, hown, hts⟩, hK, hT⟩ := id C
  have hl : lv_has ls 1 [(0, .int a0)] := hl
  unfold X11_isSheet at hf
  refine lv_iload_n hx hb dX11_isSheet_0 rfl (lv_at hl 0 rfl) ?_
  refine lv_i2l (v := (a0 : Int32).toInt64) hx hb dX11_isSheet_1 rfl ?_
  refine lv_lconst (v := 0) hx hb dX11_isSheet_2 (by decide) ?_
  refine lv_ldc2 hx hb hown (hts _ (g_us _ q_RX11_204)) dX11_isSheet_3 ?_
  replace hf := bd_so hf
  obtain ⟨x2, h1, hf⟩ := hf
  refine g_callSi (As := [.long ((a0 : Int32).toInt64), .long 0, .long 3]) (rest := []) C g_us hW hl.1 (c_X11_in l E S ((a0 : Int32).toInt64) 0 3 _ h1) k_RX11_72 rfl ⟨rfl, rfl⟩ ⟨Nat.le_of_ble_eq_true rfl, Nat.le_of_ble_eq_true rfl⟩ ⟨Nat.zero_le _, Nat.zero_le _⟩ _ rfl (Nat.le_of_ble_eq_true rfl) dX11_isSheet_6 (fun H locs hW => ?_)
  obtain rfl := so1 hf
  exact kR _ _ _ _ hW (zb_X11_in h1) dX11_isSheet_9

abbrev rm_X11_isLane : Room := { frames := 2, cells := 0, slots := 0, locals := 85 }
set_option maxHeartbeats 4000000 in
set_option maxRecDepth 100000 in
theorem c_X11_isLane (l : Launch) (E : En) (S : St) (a0 : Int32) (r : Int32) (hf : X11_isLane S a0 = some r) : Mi l E yX11_isLane cX11_isLane 1 (some .boolean) rm_X11_isLane [.int a0] S r S := by
  refine g_startZ (cc := cX11_isLane) (n := 1) (by decide) (Nat.le_of_ble_eq_true rfl) ?_
  intro p e s m args below meth c Q H locs C kR hW ls hl
  obtain ⟨⟨hx, hb, hml, hown, hts⟩, hK, hT⟩ := id C
  have hl : lv_has ls 1 [(0, .int a0)] := hl
  unfold X11_isLane at hf
  refine lv_iload_n hx hb dX11_isLane_0 rfl (lv_at hl 0 rfl) ?_
  refine lv_i2l (v := (a0 : Int32).toInt64) hx hb dX11_isLane_1 rfl ?_
  refine lv_lconst (v := 0) hx hb dX11_isLane_2 (by decide) ?_
  refine lv_ldc2 hx hb hown (hts _ (g_us _ q_RX11_194)) dX11_isLane_3 ?_
  replace hf := bd_so hf
  obtain ⟨x2, h1, hf⟩ := hf
  refine g_callSi (As := [.long ((a0 : Int32).toInt64), .long 0, .long 2]) (rest := []) C g_us hW hl.1 (c_X11_in l E S ((a0 : Int32).toInt64) 0 2 _ h1) k_RX11_72 rfl ⟨rfl, rfl⟩ ⟨Nat.le_of_ble_eq_true rfl, Nat.le_of_ble_eq_true rfl⟩ ⟨Nat.zero_le _, Nat.zero_le _⟩ _ rfl (Nat.le_of_ble_eq_true rfl) dX11_isLane_6 (fun H locs hW => ?_)
  obtain rfl := so1 hf
  exact kR _ _ _ _ hW (zb_X11_in h1) dX11_isLane_9

abbrev rm_X11_finds : Room := { frames := 1, cells := 0, slots := 0, locals := 60 }
set_option maxHeartbeats 4000000 in
set_option maxRecDepth 100000 in
theorem c_X11_finds (l : Launch) (E : En) (S : St) (a1 : Int32) (a2 : Int32) (a3 : Int32) (a4 : Int32) (r : Int32) (hf : X11_finds S a1 a2 a3 a4 = some r) : Mi l E yX11_finds cX11_finds 5 (some .int) rm_X11_finds [.ref (E.ad 60), .int a1, .int a2, .int a3, .int a4] S r S := by
  refine g_startI (cc := cX11_finds) (n := 5) (by decide) (Nat.le_of_ble_eq_true rfl) ?_
  intro p e s m args below meth c Q H locs C kR hW ls hl
  obtain ⟨⟨hx, hb, hml, hown, hts⟩, hK, hT⟩ := id C
  have hl : lv_has ls 5 [(0, .ref (E.ad 60)), (1, .int a1), (2, .int a2), (3, .int a3), (4, .int a4)] := hl
  unfold X11_finds at hf
  refine lv_aload_n hx hb dX11_finds_0 rfl (lv_at hl 0 rfl) ?_
  refine g_get (ci := 11) (k := 18) (val := .ref (E.ad 77)) C g_us hW rfl rfl rfl (in_sid _ rfl) (by decide) f_RX11_60 rfl dX11_finds_1 ?_
  refine lv_iload_n hx hb dX11_finds_4 rfl (lv_at hl 1 rfl) ?_
  replace hf := bd_so hf
  obtain ⟨x1, h2, hf⟩ := hf
  refine g_iald C hW h2 dX11_finds_5 ?_
  refine lv_if_ge (tgt := 12) hx hb dX11_finds_6 (by decide) (fun c3 => ?_) (fun c3 => ?_)
  · replace hf := ift_ hf c3
    refine lv_aload_n hx hb dX11_finds_12 rfl (lv_at hl 0 rfl) ?_
    refine g_get (ci := 11) (k := 18) (val := .ref (E.ad 77)) C g_us hW rfl rfl rfl (in_sid _ rfl) (by decide) f_RX11_60 rfl dX11_finds_13 ?_
    refine lv_iload_n hx hb dX11_finds_16 rfl (lv_at hl 1 rfl) ?_
    replace hf := bd_so hf
    obtain ⟨x4, h5, hf⟩ := hf
    refine g_iald C hW h5 dX11_finds_17 ?_
    refine lv_iload_n hx hb dX11_finds_18 rfl (lv_at hl 2 rfl) ?_
    refine lv_icmp_eq (tgt := 25) hx hb dX11_finds_19 (by decide) (fun c6 => ?_) (fun c6 => ?_)
    · replace hf := ift_ hf c6
      refine lv_iload_n hx hb dX11_finds_25 rfl (lv_at hl 3 rfl) ?_
      refine lv_if_lt (tgt := 46) hx hb dX11_finds_26 (by decide) (fun c7 => ?_) (fun c7 => ?_)
      · replace hf := ift_ hf c7
        refine lv_bipush (v := (-13)) hx hb dX11_finds_46 (by decide) ?_
        refine lv_goto (tgt := 52) hx hb dX11_finds_48 (by decide) ?_
        obtain rfl := so1 hf
        exact kR _ _ _ _ hW dX11_finds_52
      · replace hf := iff_ hf c7
        refine lv_iload_n hx hb dX11_finds_29 rfl (lv_at hl 3 rfl) ?_
        refine lv_i2l (v := (a3 : Int32).toInt64) hx hb dX11_finds_30 rfl ?_
        refine lv_iload hx hb dX11_finds_31 (lv_at hl 4 rfl) ?_
        refine lv_i2l (v := (a4 : Int32).toInt64) hx hb dX11_finds_33 rfl ?_
        refine lv_ladd hx hb dX11_finds_34 ?_
        refine lv_aload_n hx hb dX11_finds_35 rfl (lv_at hl 0 rfl) ?_
        refine g_get (ci := 11) (k := 19) (val := .ref (E.ad 78)) C g_us hW rfl rfl rfl (in_sid _ rfl) (by decide) f_RX11_63 rfl dX11_finds_36 ?_
        refine lv_iload_n hx hb dX11_finds_39 rfl (lv_at hl 1 rfl) ?_
        replace hf := bd_so hf
        obtain ⟨x8, h9, hf⟩ := hf
        refine g_iald C hW h9 dX11_finds_40 ?_
        refine lv_i2l (v := (x8 : Int32).toInt64) hx hb dX11_finds_41 rfl ?_
        refine W.lcmp hx hb dX11_finds_42 ?_
        refine lv_if_le (tgt := 51) hx hb dX11_finds_43 (by decide) (fun c10 => ?_) (fun c10 => ?_)
        · replace hf := ift_ hf c10
          refine lv_iconst (v := 0) hx hb dX11_finds_51 (by decide) ?_
          obtain rfl := so1 hf
          exact kR _ _ _ _ hW dX11_finds_52
        · replace hf := iff_ hf c10
          refine lv_bipush (v := (-13)) hx hb dX11_finds_46 (by decide) ?_
          refine lv_goto (tgt := 52) hx hb dX11_finds_48 (by decide) ?_
          obtain rfl := so1 hf
          exact kR _ _ _ _ hW dX11_finds_52
    · replace hf := iff_ hf c6
      refine lv_bipush (v := (-12)) hx hb dX11_finds_22 (by decide) ?_
      obtain rfl := so1 hf
      exact kR _ _ _ _ hW dX11_finds_24
  · replace hf := iff_ hf c3
    refine lv_bipush (v := (-11)) hx hb dX11_finds_9 (by decide) ?_
    obtain rfl := so1 hf
    exact kR _ _ _ _ hW dX11_finds_11

abbrev rm_X11_wires : Room := { frames := 3, cells := 0, slots := 0, locals := 106 }
set_option maxHeartbeats 4000000 in
set_option maxRecDepth 100000 in
theorem c_X11_wires (l : Launch) (E : En) (S : St) (a1 : Int32) (a2 : Int32) (a3 : Int32) (a4 : Int32) (r : Int32) (S1 : St) (hf : X11_wires S a1 a2 a3 a4 = some (r, S1)) : Mi l E yX11_wires cX11_wires 8 (some .int) rm_X11_wires [.ref (E.ad 60), .int a1, .int a2, .int a3, .int a4] S r S1 := by
  refine g_startI (cc := cX11_wires) (n := 8) (by decide) (Nat.le_of_ble_eq_true rfl) ?_
  intro p e s m args below meth c Q H locs C kR hW ls hl
  obtain ⟨⟨hx, hb, hml, hown, hts⟩, hK, hT⟩ := id C
  have hl : lv_has ls 8 [(0, .ref (E.ad 60)), (1, .int a1), (2, .int a2), (3, .int a3), (4, .int a4)] := hl
  have X11_wires_L49_c : ∀ (S : St) (v1 : Int32) (v2 : Int32) (v4 : Int32) (res : (Unit) ⊕ (Int32 × St)) (n : Nat) (v6 : Int32) (H : Heap) (locs : List Loc) (ls : Array Slot), Ww E S s H locs → lv_has ls 8 [(0, .ref (E.ad 60)), (1, .int v1), (2, .int v2), (4, .int v4), (6, .int v6)] → X11_wires_L49 S v1 v2 v4 n v6 = some res → (∀ (H : Heap) (locs : List Loc) (ls : Array Slot), some (.inl ()) = some res → Ww E S s H locs → lv_has ls 8 [(0, .ref (E.ad 60)), (1, .int v1), (2, .int v2), (4, .int v4)] → W p l e rm_X11_wires s m args below meth c H locs 0 0 Q (F0 m 103 ls [])) → (∀ (r0 : Int32) (T : St) (H : Heap) (locs : List Loc) (pc : Nat) (ls : Array Slot), some (.inr (r0, T)) = some res → Ww E T s H locs → decode cX11_wires pc = .ok (.ireturn, 1) → W p l e rm_X11_wires s m args below meth c H locs 0 0 Q (F0 m pc ls [.int r0])) → W p l e rm_X11_wires s m args below meth c H locs 0 0 Q (F0 m 49 ls []) := by
    intro S v1 v2 v4 res n
    induction n with
    | zero =>
      intro v6 H locs ls hW hl hf
      cases hf
    | succ n ih =>
      intro v6 H locs ls hW hl hf kE kR
      unfold X11_wires_L49 at hf
      refine lv_iload hx hb dX11_wires_49 (lv_at hl 4 rfl) ?_
      refine lv_aload_n hx hb dX11_wires_51 rfl (lv_at hl 0 rfl) ?_
      replace hf := bd_so hf
      obtain ⟨x16, h15, hf⟩ := hf
      refine g_callVi (ci := 11) (As := []) (rest := [.int v6]) C g_us hW hl.1 (c_X11_rooms l E S  _ h15) rfl rfl rfl (in_sid _ rfl) k_RX11_82 rfl ⟨rfl, rfl⟩ ⟨Nat.le_of_ble_eq_true rfl, Nat.le_of_ble_eq_true rfl⟩ ⟨Nat.zero_le _, Nat.zero_le _⟩ _ rfl (Nat.le_of_ble_eq_true rfl) dX11_wires_52 (fun H locs hW => ?_)
      refine lv_icmp_ge (tgt := 103) hx hb dX11_wires_55 (by decide) (fun c17 => ?_) (fun c17 => ?_)
      · replace hf := ift_ hf c17
        exact kE  _ _ _ hf hW (lv_sub hl [0, 1, 2, 3] rfl)
      · replace hf := iff_ hf c17
        refine lv_aload_n hx hb dX11_wires_58 rfl (lv_at hl 0 rfl) ?_
        refine g_get (ci := 11) (k := 20) (val := .ref (E.ad 79)) C g_us hW rfl rfl rfl (in_sid _ rfl) (by decide) f_RX11_66 rfl dX11_wires_59 ?_
        refine lv_bipush (v := 40) hx hb dX11_wires_62 (by decide) ?_
        refine lv_iload_n hx hb dX11_wires_64 rfl (lv_at hl 2 rfl) ?_
        refine lv_imul hx hb dX11_wires_65 ?_
        refine lv_iload hx hb dX11_wires_66 (lv_at hl 3 rfl) ?_
        refine lv_iadd hx hb dX11_wires_68 ?_
        refine lv_iload hx hb dX11_wires_69 (lv_at hl 4 rfl) ?_
        refine lv_iadd hx hb dX11_wires_71 ?_
        replace hf := bd_so hf
        obtain ⟨x18, h19, hf⟩ := hf
        refine g_iald C hW h19 dX11_wires_72 ?_
        refine lv_i2l (v := (x18 : Int32).toInt64) hx hb dX11_wires_73 rfl ?_
        refine lv_lconst (v := 0) hx hb dX11_wires_74 (by decide) ?_
        refine lv_iload hx hb dX11_wires_75 (lv_at hl 4 rfl) ?_
        refine lv_iload_n hx hb dX11_wires_77 rfl (lv_at hl 1 rfl) ?_
        replace hf := bd_so hf
        obtain ⟨x21, h22, hf⟩ := hf
        have J23 : ∀ (H : Heap) (locs : List Loc) (ls : Array Slot), Ww E S s H locs → lv_has ls 8 [(0, .ref (E.ad 60)), (1, .int v1), (2, .int v2), (4, .int v4), (6, .int v6)] → W p l e rm_X11_wires s m args below meth c H locs 0 0 Q (F0 m 88 ls [.long x21, .long 0, .long ((x18 : Int32).toInt64)]) := by
          intro H locs ls hW hl
          replace hf := bd_so hf
          obtain ⟨x25, h24, hf⟩ := hf
          refine g_callSi (As := [.long ((x18 : Int32).toInt64), .long 0, .long x21]) (rest := []) C g_us hW hl.1 (c_X11_in l E S ((x18 : Int32).toInt64) 0 x21 _ h24) k_RX11_72 rfl ⟨rfl, rfl⟩ ⟨Nat.le_of_ble_eq_true rfl, Nat.le_of_ble_eq_true rfl⟩ ⟨Nat.zero_le _, Nat.zero_le _⟩ _ rfl (Nat.le_of_ble_eq_true rfl) dX11_wires_88 (fun H locs hW => ?_)
          refine lv_if_ne (tgt := 97) hx hb dX11_wires_91 (by decide) (fun c26 => ?_) (fun c26 => ?_)
          · replace hf := iff_ hf c26
            refine lv_iinc (v := (v6 + 1)) (lv' := [(6, .int (v6 + 1)), (0, .ref (E.ad 60)), (1, .int v1), (2, .int v2), (4, .int v4)]) hx hb dX11_wires_97 hl (k := 4) rfl rfl (by decide) rfl (fun ls hl => ?_)
            refine lv_goto (tgt := 49) hx hb dX11_wires_100 (by decide) ?_
            exact ih _ _ _ _ hW (lv_sub hl [1, 2, 3, 4, 0] rfl) hf kE kR
          · replace hf := ift_ hf c26
            refine lv_bipush (v := (-2)) hx hb dX11_wires_94 (by decide) ?_
            exact kR _ _ _ _ _ _ hf hW dX11_wires_96
        clear hf
        have hf := h22
        clear h22
        refine lv_icmp_ne (tgt := 85) hx hb dX11_wires_78 (by decide) (fun c20 => ?_) (fun c20 => ?_)
        · replace hf := iff_ hf c20
          refine lv_ldc2 hx hb hown (hts _ (g_us _ q_RX11_94)) dX11_wires_85 ?_
          obtain rfl := so1 hf
          exact J23 _ _ _ hW (lv_sub hl [0, 1, 2, 3, 4] rfl)
        · replace hf := ift_ hf c20
          refine lv_lconst (v := 0) hx hb dX11_wires_81 (by decide) ?_
          refine lv_goto (tgt := 88) hx hb dX11_wires_82 (by decide) ?_
          obtain rfl := so1 hf
          exact J23 _ _ _ hW (lv_sub hl [0, 1, 2, 3, 4] rfl)
  have X11_wires_L109_c : ∀ (v1 : Int32) (v2 : Int32) (v4 : Int32) (res : Int32 × St) (n : Nat) (v6 : Int32) (v7 : Int32) (S : St) (H : Heap) (locs : List Loc) (ls : Array Slot), Ww E S s H locs → lv_has ls 8 [(0, .ref (E.ad 60)), (1, .int v1), (2, .int v2), (4, .int v4), (6, .int v6), (7, .int v7)] → X11_wires_L109 v1 v2 v4 n v6 v7 S = some res → (∀ (w6 : Int32) (T : St) (H : Heap) (locs : List Loc) (ls : Array Slot), some (w6, T) = some res → Ww E T s H locs → lv_has ls 8 [(6, .int w6)] → W p l e rm_X11_wires s m args below meth c H locs 0 0 Q (F0 m 182 ls [])) → W p l e rm_X11_wires s m args below meth c H locs 0 0 Q (F0 m 109 ls []) := by
    intro v1 v2 v4 res n
    induction n with
    | zero =>
      intro v6 v7 S H locs ls hW hl hf
      cases hf
    | succ n ih =>
      intro v6 v7 S H locs ls hW hl hf kE
      unfold X11_wires_L109 at hf
      refine lv_iload hx hb dX11_wires_109 (lv_at hl 5 rfl) ?_
      refine lv_aload_n hx hb dX11_wires_111 rfl (lv_at hl 0 rfl) ?_
      replace hf := bd_so hf
      obtain ⟨x29, h28, hf⟩ := hf
      refine g_callVi (ci := 11) (As := []) (rest := [.int v7]) C g_us hW hl.1 (c_X11_rooms l E S  _ h28) rfl rfl rfl (in_sid _ rfl) k_RX11_82 rfl ⟨rfl, rfl⟩ ⟨Nat.le_of_ble_eq_true rfl, Nat.le_of_ble_eq_true rfl⟩ ⟨Nat.zero_le _, Nat.zero_le _⟩ _ rfl (Nat.le_of_ble_eq_true rfl) dX11_wires_112 (fun H locs hW => ?_)
      refine lv_icmp_ge (tgt := 182) hx hb dX11_wires_115 (by decide) (fun c30 => ?_) (fun c30 => ?_)
      · replace hf := ift_ hf c30
        exact kE _ _ _ _ _ hf hW (lv_sub hl [4] rfl)
      · replace hf := iff_ hf c30
        refine lv_aload_n hx hb dX11_wires_118 rfl (lv_at hl 0 rfl) ?_
        refine g_get (ci := 11) (k := 0) (val := .ref (E.ad 61)) C g_us hW rfl rfl rfl (in_sid _ rfl) (by decide) f_RX11_7 rfl dX11_wires_119 ?_
        refine lv_bipush (v := 64) hx hb dX11_wires_122 (by decide) ?_
        refine lv_bipush (v := 8) hx hb dX11_wires_124 (by decide) ?_
        refine lv_iload_n hx hb dX11_wires_126 rfl (lv_at hl 1 rfl) ?_
        refine lv_imul hx hb dX11_wires_127 ?_
        refine lv_iadd hx hb dX11_wires_128 ?_
        refine lv_iload hx hb dX11_wires_129 (lv_at hl 5 rfl) ?_
        refine lv_iadd hx hb dX11_wires_131 ?_
        refine lv_aload_n hx hb dX11_wires_132 rfl (lv_at hl 0 rfl) ?_
        refine g_get (ci := 11) (k := 20) (val := .ref (E.ad 79)) C g_us hW rfl rfl rfl (in_sid _ rfl) (by decide) f_RX11_66 rfl dX11_wires_133 ?_
        refine lv_bipush (v := 40) hx hb dX11_wires_136 (by decide) ?_
        refine lv_iload_n hx hb dX11_wires_138 rfl (lv_at hl 2 rfl) ?_
        refine lv_imul hx hb dX11_wires_139 ?_
        refine lv_iload hx hb dX11_wires_140 (lv_at hl 3 rfl) ?_
        refine lv_iadd hx hb dX11_wires_142 ?_
        refine lv_iload hx hb dX11_wires_143 (lv_at hl 5 rfl) ?_
        refine lv_iadd hx hb dX11_wires_145 ?_
        replace hf := bd_so hf
        obtain ⟨x31, h32, hf⟩ := hf
        refine g_iald C hW h32 dX11_wires_146 ?_
        replace hf := bd_so hf
        obtain ⟨S33, h34, hf⟩ := hf
        refine g_iast C hW h34 dX11_wires_147 (fun H locs hW => ?_)
        refine lv_iload hx hb dX11_wires_148 (lv_at hl 4 rfl) ?_
        refine lv_aload_n hx hb dX11_wires_150 rfl (lv_at hl 0 rfl) ?_
        refine g_get (ci := 11) (k := 20) (val := .ref (E.ad 79)) C g_us hW rfl rfl rfl (in_sid _ rfl) (by decide) f_RX11_66 rfl dX11_wires_151 ?_
        refine lv_bipush (v := 40) hx hb dX11_wires_154 (by decide) ?_
        refine lv_iload_n hx hb dX11_wires_156 rfl (lv_at hl 2 rfl) ?_
        refine lv_imul hx hb dX11_wires_157 ?_
        refine lv_iload hx hb dX11_wires_158 (lv_at hl 3 rfl) ?_
        refine lv_iadd hx hb dX11_wires_160 ?_
        refine lv_iload hx hb dX11_wires_161 (lv_at hl 5 rfl) ?_
        refine lv_iadd hx hb dX11_wires_163 ?_
        replace hf := bd_so hf
        obtain ⟨x35, h36, hf⟩ := hf
        refine g_iald C hW h36 dX11_wires_164 ?_
        replace hf := bd_so hf
        obtain ⟨x38, h39, hf⟩ := hf
        have J40 : ∀ (H : Heap) (locs : List Loc) (ls : Array Slot), Ww E S33 s H locs → lv_has ls 8 [(0, .ref (E.ad 60)), (1, .int v1), (2, .int v2), (4, .int v4), (7, .int v7)] → W p l e rm_X11_wires s m args below meth c H locs 0 0 Q (F0 m 173 ls [.int x38, .int v6]) := by
          intro H locs ls hW hl
          refine lv_iadd hx hb dX11_wires_173 ?_
          refine lv_istore (lv' := [(6, .int (v6 + x38)), (0, .ref (E.ad 60)), (1, .int v1), (2, .int v2), (4, .int v4), (7, .int v7)]) hx hb dX11_wires_174 hl (by decide) rfl (fun ls hl => ?_)
          refine lv_iinc (v := (v7 + 1)) (lv' := [(7, .int (v7 + 1)), (6, .int (v6 + x38)), (0, .ref (E.ad 60)), (1, .int v1), (2, .int v2), (4, .int v4)]) hx hb dX11_wires_176 hl (k := 5) rfl rfl (by decide) rfl (fun ls hl => ?_)
          refine lv_goto (tgt := 109) hx hb dX11_wires_179 (by decide) ?_
          exact ih _ _ _ _ _ _ hW (lv_sub hl [2, 3, 4, 5, 1, 0] rfl) hf kE
        clear hf
        have hf := h39
        clear h39
        refine lv_if_le (tgt := 172) hx hb dX11_wires_165 (by decide) (fun c37 => ?_) (fun c37 => ?_)
        · replace hf := ift_ hf c37
          refine lv_iconst (v := 0) hx hb dX11_wires_172 (by decide) ?_
          obtain rfl := so1 hf
          exact J40 _ _ _ hW (lv_sub hl [0, 1, 2, 3, 5] rfl)
        · replace hf := iff_ hf c37
          refine lv_iconst (v := 1) hx hb dX11_wires_168 (by decide) ?_
          refine lv_goto (tgt := 173) hx hb dX11_wires_169 (by decide) ?_
          obtain rfl := so1 hf
          exact J40 _ _ _ hW (lv_sub hl [0, 1, 2, 3, 5] rfl)
  unfold X11_wires at hf
  refine lv_aload_n hx hb dX11_wires_0 rfl (lv_at hl 0 rfl) ?_
  refine lv_iload_n hx hb dX11_wires_1 rfl (lv_at hl 1 rfl) ?_
  replace hf := bd_so hf
  obtain ⟨x2, h1, hf⟩ := hf
  refine g_callVi (ci := 11) (As := [.int a1]) (rest := []) C g_us hW hl.1 (c_X11_isRoom l E S a1 _ h1) rfl rfl rfl (in_sid _ rfl) k_RX11_86 rfl ⟨rfl, rfl⟩ ⟨Nat.le_of_ble_eq_true rfl, Nat.le_of_ble_eq_true rfl⟩ ⟨Nat.zero_le _, Nat.zero_le _⟩ _ rfl (Nat.le_of_ble_eq_true rfl) dX11_wires_2 (fun H locs hW => ?_)
  refine lv_if_eq (tgt := 22) hx hb dX11_wires_5 (by decide) (fun c3 => ?_) (fun c3 => ?_)
  · replace hf := ift_ hf c3
    refine lv_iconst (v := (-1)) hx hb dX11_wires_22 (by decide) ?_
    obtain ⟨rfl, rfl⟩ := so2 hf
    exact kR _ _ _ _ hW dX11_wires_23
  · replace hf := iff_ hf c3
    refine lv_iload_n hx hb dX11_wires_8 rfl (lv_at hl 2 rfl) ?_
    replace hf := bd_so hf
    obtain ⟨x5, h4, hf⟩ := hf
    refine g_callSi (As := [.int a2]) (rest := []) C g_us hW hl.1 (c_X11_isSheet l E S a2 _ h4) k_RX11_99 rfl ⟨rfl, rfl⟩ ⟨Nat.le_of_ble_eq_true rfl, Nat.le_of_ble_eq_true rfl⟩ ⟨Nat.zero_le _, Nat.zero_le _⟩ _ rfl (Nat.le_of_ble_eq_true rfl) dX11_wires_9 (fun H locs hW => ?_)
    refine lv_if_eq (tgt := 22) hx hb dX11_wires_12 (by decide) (fun c6 => ?_) (fun c6 => ?_)
    · replace hf := ift_ hf c6
      refine lv_iconst (v := (-1)) hx hb dX11_wires_22 (by decide) ?_
      obtain ⟨rfl, rfl⟩ := so2 hf
      exact kR _ _ _ _ hW dX11_wires_23
    · replace hf := iff_ hf c6
      refine lv_iload_n hx hb dX11_wires_15 rfl (lv_at hl 3 rfl) ?_
      replace hf := bd_so hf
      obtain ⟨x8, h7, hf⟩ := hf
      refine g_callSi (As := [.int a3]) (rest := []) C g_us hW hl.1 (c_X11_isLane l E S a3 _ h7) k_RX11_102 rfl ⟨rfl, rfl⟩ ⟨Nat.le_of_ble_eq_true rfl, Nat.le_of_ble_eq_true rfl⟩ ⟨Nat.zero_le _, Nat.zero_le _⟩ _ rfl (Nat.le_of_ble_eq_true rfl) dX11_wires_16 (fun H locs hW => ?_)
      refine lv_if_ne (tgt := 24) hx hb dX11_wires_19 (by decide) (fun c9 => ?_) (fun c9 => ?_)
      · replace hf := iff_ hf c9
        refine lv_aload_n hx hb dX11_wires_24 rfl (lv_at hl 0 rfl) ?_
        refine lv_iload_n hx hb dX11_wires_25 rfl (lv_at hl 2 rfl) ?_
        refine lv_iload_n hx hb dX11_wires_26 rfl (lv_at hl 3 rfl) ?_
        refine lv_iload hx hb dX11_wires_27 (lv_at hl 4 rfl) ?_
        refine lv_aload_n hx hb dX11_wires_29 rfl (lv_at hl 0 rfl) ?_
        replace hf := bd_so hf
        obtain ⟨x11, h10, hf⟩ := hf
        refine g_callVi (ci := 11) (As := []) (rest := [.int a4, .int a3, .int a2, .ref (E.ad 60)]) C g_us hW hl.1 (c_X11_rooms l E S  _ h10) rfl rfl rfl (in_sid _ rfl) k_RX11_82 rfl ⟨rfl, rfl⟩ ⟨Nat.le_of_ble_eq_true rfl, Nat.le_of_ble_eq_true rfl⟩ ⟨Nat.zero_le _, Nat.zero_le _⟩ _ rfl (Nat.le_of_ble_eq_true rfl) dX11_wires_30 (fun H locs hW => ?_)
        replace hf := bd_so hf
        obtain ⟨x13, h12, hf⟩ := hf
        refine g_callVi (ci := 11) (As := [.int a2, .int a3, .int a4, .int x11]) (rest := []) C g_us hW hl.1 (c_X11_finds l E S a2 a3 a4 x11 _ h12) rfl rfl rfl (in_sid _ rfl) k_RX11_105 rfl ⟨rfl, rfl⟩ ⟨Nat.le_of_ble_eq_true rfl, Nat.le_of_ble_eq_true rfl⟩ ⟨Nat.zero_le _, Nat.zero_le _⟩ _ rfl (Nat.le_of_ble_eq_true rfl) dX11_wires_33 (fun H locs hW => ?_)
        refine lv_istore (lv' := [(5, .int x13), (0, .ref (E.ad 60)), (1, .int a1), (2, .int a2), (3, .int a3), (4, .int a4)]) hx hb dX11_wires_36 hl (by decide) rfl (fun ls hl => ?_)
        refine lv_iload hx hb dX11_wires_38 (lv_at hl 0 rfl) ?_
        refine lv_if_ge (tgt := 46) hx hb dX11_wires_40 (by decide) (fun c14 => ?_) (fun c14 => ?_)
        · replace hf := ift_ hf c14
          refine lv_iconst (v := 0) hx hb dX11_wires_46 (by decide) ?_
          refine lv_istore (lv' := [(6, .int 0), (5, .int x13), (0, .ref (E.ad 60)), (1, .int a1), (2, .int a2), (3, .int a3), (4, .int a4)]) hx hb dX11_wires_47 hl (by decide) rfl (fun ls hl => ?_)
          replace hf := bd_so hf
          obtain ⟨t, h27, hf⟩ := hf
          rcases t with u | ⟨x46, S47⟩
          · dsimp only at hf
            have J45 : ∀ (H : Heap) (locs : List Loc) (ls : Array Slot), Ww E S s H locs → lv_has ls 8 [(0, .ref (E.ad 60)), (1, .int a1), (2, .int a2), (4, .int a4)] → W p l e rm_X11_wires s m args below meth c H locs 0 0 Q (F0 m 103 ls []) := by
              intro H locs ls hW hl
              refine lv_iconst (v := 0) hx hb dX11_wires_103 (by decide) ?_
              refine lv_istore (lv' := [(6, .int 0), (0, .ref (E.ad 60)), (1, .int a1), (2, .int a2), (4, .int a4)]) hx hb dX11_wires_104 hl (by decide) rfl (fun ls hl => ?_)
              refine lv_iconst (v := 0) hx hb dX11_wires_106 (by decide) ?_
              refine lv_istore (lv' := [(7, .int 0), (6, .int 0), (0, .ref (E.ad 60)), (1, .int a1), (2, .int a2), (4, .int a4)]) hx hb dX11_wires_107 hl (by decide) rfl (fun ls hl => ?_)
              replace hf := bd_so hf
              obtain ⟨⟨x41, S42⟩, h43, hf⟩ := hf
              dsimp only at hf
              have J44 : ∀ (H : Heap) (locs : List Loc) (ls : Array Slot), Ww E S42 s H locs → lv_has ls 8 [(6, .int x41)] → W p l e rm_X11_wires s m args below meth c H locs 0 0 Q (F0 m 182 ls []) := by
                intro H locs ls hW hl
                refine lv_iload hx hb dX11_wires_182 (lv_at hl 0 rfl) ?_
                obtain ⟨rfl, rfl⟩ := so2 hf
                exact kR _ _ _ _ hW dX11_wires_184
              exact X11_wires_L109_c _ _ _ _ FU _ _ _ _ _ _ hW (lv_sub hl [2, 3, 4, 5, 1, 0] rfl) h43 (fun _ _ H locs ls e hW hl => by cases e; exact J44 H locs ls hW hl)
            exact X11_wires_L49_c _ _ _ _ _ FU _ _ _ _ hW (lv_sub hl [2, 3, 4, 6, 0] rfl) h27 (fun H locs ls e hW hl => by cases e; exact J45 H locs ls hW hl) (fun _ _ H locs pc ls e hW dd => by cases e)
          · dsimp only at hf
            refine X11_wires_L49_c _ _ _ _ _ FU _ _ _ _ hW (lv_sub hl [2, 3, 4, 6, 0] rfl) h27 (fun H locs ls e hW hl => by cases e) (fun _ _ H locs pc ls e hW dd => ?_)
            cases e
            obtain ⟨rfl, rfl⟩ := so2 hf
            exact kR _ _ _ _ hW dd
        · replace hf := iff_ hf c14
          refine lv_iload hx hb dX11_wires_43 (lv_at hl 0 rfl) ?_
          obtain ⟨rfl, rfl⟩ := so2 hf
          exact kR _ _ _ _ hW dX11_wires_45
      · replace hf := ift_ hf c9
        refine lv_iconst (v := (-1)) hx hb dX11_wires_22 (by decide) ?_
        obtain ⟨rfl, rfl⟩ := so2 hf
        exact kR _ _ _ _ hW dX11_wires_23

abbrev rm_X11_pace : Room := { frames := 2, cells := 0, slots := 0, locals := 85 }
set_option maxHeartbeats 4000000 in
set_option maxRecDepth 100000 in
theorem c_X11_pace (l : Launch) (E : En) (S : St) (a1 : Int32) (r : Int32) (S1 : St) (hf : X11_pace S a1 = some (r, S1)) : Mi l E yX11_pace cX11_pace 3 (some .int) rm_X11_pace [.ref (E.ad 60), .int a1] S r S1 := by
  refine g_startI (cc := cX11_pace) (n := 3) (by decide) (Nat.le_of_ble_eq_true rfl) ?_
  intro p e s m args below meth c Q H locs C kR hW ls hl
  obtain ⟨⟨hx, hb, hml, hown, hts⟩, hK, hT⟩ := id C
  have hl : lv_has ls 3 [(0, .ref (E.ad 60)), (1, .int a1)] := hl
  unfold X11_pace at hf
  refine lv_iload_n hx hb dX11_pace_0 rfl (lv_at hl 1 rfl) ?_
  refine lv_i2l (v := (a1 : Int32).toInt64) hx hb dX11_pace_1 rfl ?_
  refine lv_lconst (v := 1) hx hb dX11_pace_2 (by decide) ?_
  refine lv_ldc2 hx hb hown (hts _ (g_us _ q_RX11_109)) dX11_pace_3 ?_
  replace hf := bd_so hf
  obtain ⟨x2, h1, hf⟩ := hf
  refine g_callSi (As := [.long ((a1 : Int32).toInt64), .long 1, .long 2000]) (rest := []) C g_us hW hl.1 (c_X11_in l E S ((a1 : Int32).toInt64) 1 2000 _ h1) k_RX11_72 rfl ⟨rfl, rfl⟩ ⟨Nat.le_of_ble_eq_true rfl, Nat.le_of_ble_eq_true rfl⟩ ⟨Nat.zero_le _, Nat.zero_le _⟩ _ rfl (Nat.le_of_ble_eq_true rfl) dX11_pace_6 (fun H locs hW => ?_)
  refine lv_if_ne (tgt := 14) hx hb dX11_pace_9 (by decide) (fun c3 => ?_) (fun c3 => ?_)
  · replace hf := iff_ hf c3
    refine lv_aload_n hx hb dX11_pace_14 rfl (lv_at hl 0 rfl) ?_
    refine g_get (ci := 11) (k := 0) (val := .ref (E.ad 61)) C g_us hW rfl rfl rfl (in_sid _ rfl) (by decide) f_RX11_7 rfl dX11_pace_15 ?_
    refine lv_sipush (v := 128) hx hb dX11_pace_18 (by decide) ?_
    replace hf := bd_so hf
    obtain ⟨x4, h5, hf⟩ := hf
    refine g_iald C hW h5 dX11_pace_21 ?_
    refine lv_istore_n (lv' := [(2, .int x4), (0, .ref (E.ad 60)), (1, .int a1)]) hx hb dX11_pace_22 rfl hl (by decide) rfl (fun ls hl => ?_)
    refine lv_aload_n hx hb dX11_pace_23 rfl (lv_at hl 1 rfl) ?_
    refine g_get (ci := 11) (k := 0) (val := .ref (E.ad 61)) C g_us hW rfl rfl rfl (in_sid _ rfl) (by decide) f_RX11_7 rfl dX11_pace_24 ?_
    refine lv_sipush (v := 128) hx hb dX11_pace_27 (by decide) ?_
    refine lv_iload_n hx hb dX11_pace_30 rfl (lv_at hl 2 rfl) ?_
    replace hf := bd_so hf
    obtain ⟨S6, h7, hf⟩ := hf
    refine g_iast C hW h7 dX11_pace_31 (fun H locs hW => ?_)
    refine lv_iload_n hx hb dX11_pace_32 rfl (lv_at hl 0 rfl) ?_
    obtain ⟨rfl, rfl⟩ := so2 hf
    exact kR _ _ _ _ hW dX11_pace_33
  · replace hf := ift_ hf c3
    refine lv_iconst (v := (-1)) hx hb dX11_pace_12 (by decide) ?_
    obtain ⟨rfl, rfl⟩ := so2 hf
    exact kR _ _ _ _ hW dX11_pace_13

abbrev rm_X11_pull : Room := { frames := 3, cells := 0, slots := 0, locals := 103 }
set_option maxHeartbeats 4000000 in
set_option maxRecDepth 100000 in
theorem c_X11_pull (l : Launch) (E : En) (S : St) (a1 : Int32) (a2 : Int32) (a3 : Int32) (r : Int32) (hf : X11_pull S a1 a2 a3 = some r) : Mi l E yX11_pull cX11_pull 9 (some .int) rm_X11_pull [.ref (E.ad 60), .int a1, .int a2, .int a3] S r S := by
  refine g_startI (cc := cX11_pull) (n := 9) (by decide) (Nat.le_of_ble_eq_true rfl) ?_
  intro p e s m args below meth c Q H locs C kR hW ls hl
  obtain ⟨⟨hx, hb, hml, hown, hts⟩, hK, hT⟩ := id C
  have hl : lv_has ls 9 [(0, .ref (E.ad 60)), (1, .int a1), (2, .int a2), (3, .int a3)] := hl
  have X11_pull_L31_c : ∀ (S : St) (v1 : Int32) (v2 : Int32) (v3 : Int32) (v6 : Int32) (res : Int32 × Int32) (n : Nat) (v4 : Int32) (v5 : Int32) (v7 : Int32) (H : Heap) (locs : List Loc) (ls : Array Slot), Ww E S s H locs → lv_has ls 9 [(0, .ref (E.ad 60)), (1, .int v1), (2, .int v2), (3, .int v3), (4, .int v4), (5, .int v5), (6, .int v6), (7, .int v7)] → X11_pull_L31 S v1 v2 v3 v6 n v4 v5 v7 = some res → (∀ (w4 : Int32) (w5 : Int32) (H : Heap) (locs : List Loc) (ls : Array Slot), some (w4, w5) = some res → Ww E S s H locs → lv_has ls 9 [(4, .int w4), (5, .int w5)] → W p l e rm_X11_pull s m args below meth c H locs 0 0 Q (F0 m 126 ls [])) → W p l e rm_X11_pull s m args below meth c H locs 0 0 Q (F0 m 31 ls []) := by
    intro S v1 v2 v3 v6 res n
    induction n with
    | zero =>
      intro v4 v5 v7 H locs ls hW hl hf
      cases hf
    | succ n ih =>
      intro v4 v5 v7 H locs ls hW hl hf kE
      unfold X11_pull_L31 at hf
      refine lv_iload hx hb dX11_pull_31 (lv_at hl 7 rfl) ?_
      refine lv_aload_n hx hb dX11_pull_33 rfl (lv_at hl 0 rfl) ?_
      replace hf := bd_so hf
      obtain ⟨x8, h7, hf⟩ := hf
      refine g_callVi (ci := 11) (As := []) (rest := [.int v7]) C g_us hW hl.1 (c_X11_rooms l E S  _ h7) rfl rfl rfl (in_sid _ rfl) k_RX11_82 rfl ⟨rfl, rfl⟩ ⟨Nat.le_of_ble_eq_true rfl, Nat.le_of_ble_eq_true rfl⟩ ⟨Nat.zero_le _, Nat.zero_le _⟩ _ rfl (Nat.le_of_ble_eq_true rfl) dX11_pull_34 (fun H locs hW => ?_)
      refine lv_icmp_ge (tgt := 126) hx hb dX11_pull_37 (by decide) (fun c9 => ?_) (fun c9 => ?_)
      · replace hf := ift_ hf c9
        exact kE _ _ _ _ _ hf hW (lv_sub hl [4, 5] rfl)
      · replace hf := iff_ hf c9
        refine lv_iload hx hb dX11_pull_40 (lv_at hl 7 rfl) ?_
        refine lv_iload_n hx hb dX11_pull_42 rfl (lv_at hl 1 rfl) ?_
        replace hf := bd_so hf
        obtain ⟨⟨x11, x12⟩, h13, hf⟩ := hf
        dsimp only at hf
        have J14 : ∀ (H : Heap) (locs : List Loc) (ls : Array Slot), Ww E S s H locs → lv_has ls 9 [(0, .ref (E.ad 60)), (1, .int v1), (2, .int v2), (3, .int v3), (4, .int x11), (5, .int x12), (6, .int v6), (7, .int v7)] → W p l e rm_X11_pull s m args below meth c H locs 0 0 Q (F0 m 120 ls []) := by
          intro H locs ls hW hl
          refine lv_iinc (v := (v7 + 1)) (lv' := [(7, .int (v7 + 1)), (0, .ref (E.ad 60)), (1, .int v1), (2, .int v2), (3, .int v3), (4, .int x11), (5, .int x12), (6, .int v6)]) hx hb dX11_pull_120 hl (k := 7) rfl rfl (by decide) rfl (fun ls hl => ?_)
          refine lv_goto (tgt := 31) hx hb dX11_pull_123 (by decide) ?_
          exact ih _ _ _ _ _ _ hW (lv_sub hl [1, 2, 3, 4, 5, 6, 7, 0] rfl) hf kE
        clear hf
        have hf := h13
        clear h13
        refine lv_icmp_eq (tgt := 120) hx hb dX11_pull_43 (by decide) (fun c10 => ?_) (fun c10 => ?_)
        · replace hf := ift_ hf c10
          obtain ⟨rfl, rfl⟩ := so2 hf
          exact J14 _ _ _ hW (lv_sub hl [0, 1, 2, 3, 4, 5, 6, 7] rfl)
        · replace hf := iff_ hf c10
          refine lv_aload_n hx hb dX11_pull_46 rfl (lv_at hl 0 rfl) ?_
          refine lv_iload hx hb dX11_pull_47 (lv_at hl 7 rfl) ?_
          replace hf := bd_so hf
          obtain ⟨x16, h15, hf⟩ := hf
          refine g_callVi (ci := 11) (As := [.int v7]) (rest := []) C g_us hW hl.1 (c_X11_sings l E S v7 _ h15) rfl rfl rfl (in_sid _ rfl) k_RX11_111 rfl ⟨rfl, rfl⟩ ⟨Nat.le_of_ble_eq_true rfl, Nat.le_of_ble_eq_true rfl⟩ ⟨Nat.zero_le _, Nat.zero_le _⟩ _ rfl (Nat.le_of_ble_eq_true rfl) dX11_pull_49 (fun H locs hW => ?_)
          refine lv_if_eq (tgt := 120) hx hb dX11_pull_52 (by decide) (fun c17 => ?_) (fun c17 => ?_)
          · replace hf := ift_ hf c17
            obtain ⟨rfl, rfl⟩ := so2 hf
            exact J14 _ _ _ hW (lv_sub hl [0, 1, 2, 3, 4, 5, 6, 7] rfl)
          · replace hf := iff_ hf c17
            refine lv_aload_n hx hb dX11_pull_55 rfl (lv_at hl 0 rfl) ?_
            refine lv_iload hx hb dX11_pull_56 (lv_at hl 7 rfl) ?_
            refine lv_iload_n hx hb dX11_pull_58 rfl (lv_at hl 1 rfl) ?_
            replace hf := bd_so hf
            obtain ⟨x19, h18, hf⟩ := hf
            refine g_callVi (ci := 11) (As := [.int v7, .int v1]) (rest := []) C g_us hW hl.1 (c_X11_wireOf l E S v7 v1 _ h18) rfl rfl rfl (in_sid _ rfl) k_RX11_96 rfl ⟨rfl, rfl⟩ ⟨Nat.le_of_ble_eq_true rfl, Nat.le_of_ble_eq_true rfl⟩ ⟨Nat.zero_le _, Nat.zero_le _⟩ _ rfl (Nat.le_of_ble_eq_true rfl) dX11_pull_59 (fun H locs hW => ?_)
            refine lv_if_le (tgt := 120) hx hb dX11_pull_62 (by decide) (fun c20 => ?_) (fun c20 => ?_)
            · replace hf := ift_ hf c20
              obtain ⟨rfl, rfl⟩ := so2 hf
              exact J14 _ _ _ hW (lv_sub hl [0, 1, 2, 3, 4, 5, 6, 7] rfl)
            · replace hf := iff_ hf c20
              refine lv_iload_n hx hb dX11_pull_65 rfl (lv_at hl 3 rfl) ?_
              replace hf := bd_so hf
              obtain ⟨x22, h23, hf⟩ := hf
              have J24 : ∀ (H : Heap) (locs : List Loc) (ls : Array Slot), Ww E S s H locs → lv_has ls 9 [(0, .ref (E.ad 60)), (1, .int v1), (2, .int v2), (3, .int v3), (4, .int v4), (5, .int v5), (6, .int v6), (7, .int v7)] → W p l e rm_X11_pull s m args below meth c H locs 0 0 Q (F0 m 80 ls [.int x22]) := by
                intro H locs ls hW hl
                refine lv_istore (lv' := [(8, .int x22), (0, .ref (E.ad 60)), (1, .int v1), (2, .int v2), (3, .int v3), (4, .int v4), (5, .int v5), (6, .int v6), (7, .int v7)]) hx hb dX11_pull_80 hl (by decide) rfl (fun ls hl => ?_)
                refine lv_iload hx hb dX11_pull_82 (lv_at hl 6 rfl) ?_
                refine lv_aload_n hx hb dX11_pull_84 rfl (lv_at hl 1 rfl) ?_
                refine g_get (ci := 11) (k := 2) (val := .ref (E.ad 63)) C g_us hW rfl rfl rfl (in_sid _ rfl) (by decide) f_RX11_17 rfl dX11_pull_85 ?_
                refine lv_bipush (v := 8) hx hb dX11_pull_88 (by decide) ?_
                refine lv_iload_n hx hb dX11_pull_90 rfl (lv_at hl 3 rfl) ?_
                refine lv_imul hx hb dX11_pull_91 ?_
                refine lv_iload hx hb dX11_pull_92 (lv_at hl 8 rfl) ?_
                refine lv_iadd hx hb dX11_pull_94 ?_
                replace hf := bd_so hf
                obtain ⟨x25, h26, hf⟩ := hf
                refine g_iald C hW h26 dX11_pull_95 ?_
                refine lv_iload hx hb dX11_pull_96 (lv_at hl 0 rfl) ?_
                refine lv_iadd hx hb dX11_pull_98 ?_
                refine lv_iload hx hb dX11_pull_99 (lv_at hl 7 rfl) ?_
                refine lv_isub hx hb dX11_pull_101 ?_
                refine lv_aload_n hx hb dX11_pull_102 rfl (lv_at hl 1 rfl) ?_
                refine g_get (ci := 11) (k := 2) (val := .ref (E.ad 63)) C g_us hW rfl rfl rfl (in_sid _ rfl) (by decide) f_RX11_17 rfl dX11_pull_103 ?_
                refine lv_bipush (v := 8) hx hb dX11_pull_106 (by decide) ?_
                refine lv_iload_n hx hb dX11_pull_108 rfl (lv_at hl 3 rfl) ?_
                refine lv_imul hx hb dX11_pull_109 ?_
                refine lv_iload_n hx hb dX11_pull_110 rfl (lv_at hl 2 rfl) ?_
                refine lv_iadd hx hb dX11_pull_111 ?_
                replace hf := bd_so hf
                obtain ⟨x27, h28, hf⟩ := hf
                refine g_iald C hW h28 dX11_pull_112 ?_
                refine lv_isub hx hb dX11_pull_113 ?_
                refine lv_iadd hx hb dX11_pull_114 ?_
                refine lv_istore (lv' := [(5, .int (v5 + (((x25 + x22) - v6) - x27))), (8, .int x22), (0, .ref (E.ad 60)), (1, .int v1), (2, .int v2), (3, .int v3), (4, .int v4), (6, .int v6), (7, .int v7)]) hx hb dX11_pull_115 hl (by decide) rfl (fun ls hl => ?_)
                refine lv_iinc (v := (v4 + 1)) (lv' := [(4, .int (v4 + 1)), (5, .int (v5 + (((x25 + x22) - v6) - x27))), (8, .int x22), (0, .ref (E.ad 60)), (1, .int v1), (2, .int v2), (3, .int v3), (6, .int v6), (7, .int v7)]) hx hb dX11_pull_117 hl (k := 6) rfl rfl (by decide) rfl (fun ls hl => ?_)
                obtain ⟨rfl, rfl⟩ := so2 hf
                exact J14 _ _ _ hW (lv_sub hl [3, 4, 5, 6, 0, 1, 7, 8] rfl)
              clear hf
              have hf := h23
              clear h23
              refine lv_if_le (tgt := 73) hx hb dX11_pull_66 (by decide) (fun c21 => ?_) (fun c21 => ?_)
              · replace hf := ift_ hf c21
                refine lv_aload_n hx hb dX11_pull_73 rfl (lv_at hl 0 rfl) ?_
                refine lv_iload hx hb dX11_pull_74 (lv_at hl 7 rfl) ?_
                refine lv_iload_n hx hb dX11_pull_76 rfl (lv_at hl 1 rfl) ?_
                replace hf := bd_so hf
                obtain ⟨x30, h29, hf⟩ := hf
                refine g_callVi (ci := 11) (As := [.int v7, .int v1]) (rest := []) C g_us hW hl.1 (c_X11_wireOf l E S v7 v1 _ h29) rfl rfl rfl (in_sid _ rfl) k_RX11_96 rfl ⟨rfl, rfl⟩ ⟨Nat.le_of_ble_eq_true rfl, Nat.le_of_ble_eq_true rfl⟩ ⟨Nat.zero_le _, Nat.zero_le _⟩ _ rfl (Nat.le_of_ble_eq_true rfl) dX11_pull_77 (fun H locs hW => ?_)
                obtain rfl := so1 hf
                exact J24 _ _ _ hW (lv_sub hl [0, 1, 2, 3, 4, 5, 6, 7] rfl)
              · replace hf := iff_ hf c21
                refine lv_iload_n hx hb dX11_pull_69 rfl (lv_at hl 3 rfl) ?_
                refine lv_goto (tgt := 80) hx hb dX11_pull_70 (by decide) ?_
                obtain rfl := so1 hf
                exact J24 _ _ _ hW (lv_sub hl [0, 1, 2, 3, 4, 5, 6, 7] rfl)
  unfold X11_pull at hf
  refine lv_iconst (v := 0) hx hb dX11_pull_0 (by decide) ?_
  refine lv_istore (lv' := [(4, .int 0), (0, .ref (E.ad 60)), (1, .int a1), (2, .int a2), (3, .int a3)]) hx hb dX11_pull_1 hl (by decide) rfl (fun ls hl => ?_)
  refine lv_iconst (v := 0) hx hb dX11_pull_3 (by decide) ?_
  refine lv_istore (lv' := [(5, .int 0), (4, .int 0), (0, .ref (E.ad 60)), (1, .int a1), (2, .int a2), (3, .int a3)]) hx hb dX11_pull_4 hl (by decide) rfl (fun ls hl => ?_)
  refine lv_aload_n hx hb dX11_pull_6 rfl (lv_at hl 2 rfl) ?_
  refine lv_iload_n hx hb dX11_pull_7 rfl (lv_at hl 3 rfl) ?_
  refine lv_iconst (v := 0) hx hb dX11_pull_8 (by decide) ?_
  replace hf := bd_so hf
  obtain ⟨x2, h1, hf⟩ := hf
  refine g_callVi (ci := 11) (As := [.int a1, .int 0]) (rest := []) C g_us hW hl.1 (c_X11_of l E S a1 0 _ h1) rfl rfl rfl (in_sid _ rfl) k_RX11_76 rfl ⟨rfl, rfl⟩ ⟨Nat.le_of_ble_eq_true rfl, Nat.le_of_ble_eq_true rfl⟩ ⟨Nat.zero_le _, Nat.zero_le _⟩ _ rfl (Nat.le_of_ble_eq_true rfl) dX11_pull_9 (fun H locs hW => ?_)
  refine lv_iconst (v := 3) hx hb dX11_pull_12 (by decide) ?_
  replace hf := bd_so hf
  obtain ⟨x4, h5, hf⟩ := hf
  have J6 : ∀ (H : Heap) (locs : List Loc) (ls : Array Slot), Ww E S s H locs → lv_has ls 9 [(0, .ref (E.ad 60)), (1, .int a1), (2, .int a2), (3, .int a3), (4, .int 0), (5, .int 0)] → W p l e rm_X11_pull s m args below meth c H locs 0 0 Q (F0 m 26 ls [.int x4]) := by
    intro H locs ls hW hl
    refine lv_istore (lv' := [(6, .int x4), (0, .ref (E.ad 60)), (1, .int a1), (2, .int a2), (3, .int a3), (4, .int 0), (5, .int 0)]) hx hb dX11_pull_26 hl (by decide) rfl (fun ls hl => ?_)
    refine lv_iconst (v := 0) hx hb dX11_pull_28 (by decide) ?_
    refine lv_istore (lv' := [(7, .int 0), (6, .int x4), (0, .ref (E.ad 60)), (1, .int a1), (2, .int a2), (3, .int a3), (4, .int 0), (5, .int 0)]) hx hb dX11_pull_29 hl (by decide) rfl (fun ls hl => ?_)
    replace hf := bd_so hf
    obtain ⟨⟨x31, x32⟩, h33, hf⟩ := hf
    dsimp only at hf
    have J37 : ∀ (H : Heap) (locs : List Loc) (ls : Array Slot), Ww E S s H locs → lv_has ls 9 [(4, .int x31), (5, .int x32)] → W p l e rm_X11_pull s m args below meth c H locs 0 0 Q (F0 m 126 ls []) := by
      intro H locs ls hW hl
      refine lv_iload hx hb dX11_pull_126 (lv_at hl 0 rfl) ?_
      refine lv_if_ne (tgt := 135) hx hb dX11_pull_128 (by decide) (fun c34 => ?_) (fun c34 => ?_)
      · replace hf := iff_ hf c34
        refine lv_iload hx hb dX11_pull_135 (lv_at hl 1 rfl) ?_
        refine lv_iload hx hb dX11_pull_137 (lv_at hl 0 rfl) ?_
        replace hf := bd_so hf
        obtain ⟨x35, h36, hf⟩ := hf
        refine g_idiv C h36 dX11_pull_139 ?_
        obtain rfl := so1 hf
        exact kR _ _ _ _ hW dX11_pull_140
      · replace hf := ift_ hf c34
        refine lv_iconst (v := 0) hx hb dX11_pull_131 (by decide) ?_
        refine lv_goto (tgt := 140) hx hb dX11_pull_132 (by decide) ?_
        obtain rfl := so1 hf
        exact kR _ _ _ _ hW dX11_pull_140
    exact X11_pull_L31_c _ _ _ _ _ _ FU _ _ _ _ _ _ hW (lv_sub hl [2, 3, 4, 5, 6, 7, 1, 0] rfl) h33 (fun _ _ H locs ls e hW hl => by cases e; exact J37 H locs ls hW hl)
  clear hf
  have hf := h5
  clear h5
  refine lv_icmp_ne (tgt := 25) hx hb dX11_pull_13 (by decide) (fun c3 => ?_) (fun c3 => ?_)
  · replace hf := iff_ hf c3
    refine lv_iconst (v := 0) hx hb dX11_pull_25 (by decide) ?_
    obtain rfl := so1 hf
    exact J6 _ _ _ hW (lv_sub hl [2, 3, 4, 5, 1, 0] rfl)
  · replace hf := ift_ hf c3
    refine lv_aload_n hx hb dX11_pull_16 rfl (lv_at hl 2 rfl) ?_
    refine lv_iload_n hx hb dX11_pull_17 rfl (lv_at hl 3 rfl) ?_
    refine lv_iconst (v := 4) hx hb dX11_pull_18 (by decide) ?_
    replace hf := bd_so hf
    obtain ⟨x39, h38, hf⟩ := hf
    refine g_callVi (ci := 11) (As := [.int a1, .int 4]) (rest := []) C g_us hW hl.1 (c_X11_of l E S a1 4 _ h38) rfl rfl rfl (in_sid _ rfl) k_RX11_76 rfl ⟨rfl, rfl⟩ ⟨Nat.le_of_ble_eq_true rfl, Nat.le_of_ble_eq_true rfl⟩ ⟨Nat.zero_le _, Nat.zero_le _⟩ _ rfl (Nat.le_of_ble_eq_true rfl) dX11_pull_19 (fun H locs hW => ?_)
    refine lv_goto (tgt := 26) hx hb dX11_pull_22 (by decide) ?_
    obtain rfl := so1 hf
    exact J6 _ _ _ hW (lv_sub hl [2, 3, 4, 5, 1, 0] rfl)

abbrev rm_X11_laysBeats : Room := { frames := 4, cells := 0, slots := 0, locals := 131 }
set_option maxHeartbeats 4000000 in
set_option maxRecDepth 100000 in
theorem c_X11_laysBeats (l : Launch) (E : En) (S : St) (a1 : Int32) (a2 : Int32) (S1 : St) (hf : X11_laysBeats S a1 a2 = some S1) : Mv l E yX11_laysBeats cX11_laysBeats 9 none rm_X11_laysBeats [.ref (E.ad 60), .int a1, .int a2] S S1 := by
  refine g_startV (cc := cX11_laysBeats) (n := 9) (by decide) (Nat.le_of_ble_eq_true rfl) ?_
  intro p e s m args below meth c Q H locs C kR hW ls hl
  obtain ⟨⟨hx, hb, hml, hown, hts⟩, hK, hT⟩ := id C
  have hl : lv_has ls 9 [(0, .ref (E.ad 60)), (1, .int a1), (2, .int a2)] := hl
  have X11_laysBeats_L12_c : ∀ (v1 : Int32) (v2 : Int32) (v3 : Int32) (res : St) (n : Nat) (v4 : Int32) (S : St) (H : Heap) (locs : List Loc) (ls : Array Slot), Ww E S s H locs → lv_has ls 9 [(0, .ref (E.ad 60)), (1, .int v1), (2, .int v2), (3, .int v3), (4, .int v4)] → X11_laysBeats_L12 v1 v2 v3 n v4 S = some res → (∀ (T : St) (H : Heap) (locs : List Loc) (ls : Array Slot), some T = some res → Ww E T s H locs → lv_has ls 9 [(0, .ref (E.ad 60)), (1, .int v1), (2, .int v2), (3, .int v3)] → W p l e rm_X11_laysBeats s m args below meth c H locs 0 0 Q (F0 m 57 ls [])) → W p l e rm_X11_laysBeats s m args below meth c H locs 0 0 Q (F0 m 12 ls []) := by
    intro v1 v2 v3 res n
    induction n with
    | zero =>
      intro v4 S H locs ls hW hl hf
      cases hf
    | succ n ih =>
      intro v4 S H locs ls hW hl hf kE
      unfold X11_laysBeats_L12 at hf
      refine lv_iload hx hb dX11_laysBeats_12 (lv_at hl 4 rfl) ?_
      refine lv_aload_n hx hb dX11_laysBeats_14 rfl (lv_at hl 0 rfl) ?_
      replace hf := bd_so hf
      obtain ⟨x4, h3, hf⟩ := hf
      refine g_callVi (ci := 11) (As := []) (rest := [.int v4]) C g_us hW hl.1 (c_X11_rooms l E S  _ h3) rfl rfl rfl (in_sid _ rfl) k_RX11_82 rfl ⟨rfl, rfl⟩ ⟨Nat.le_of_ble_eq_true rfl, Nat.le_of_ble_eq_true rfl⟩ ⟨Nat.zero_le _, Nat.zero_le _⟩ _ rfl (Nat.le_of_ble_eq_true rfl) dX11_laysBeats_15 (fun H locs hW => ?_)
      refine lv_icmp_ge (tgt := 57) hx hb dX11_laysBeats_18 (by decide) (fun c5 => ?_) (fun c5 => ?_)
      · replace hf := ift_ hf c5
        exact kE _ _ _ _ hf hW (lv_sub hl [0, 1, 2, 3] rfl)
      · replace hf := iff_ hf c5
        refine lv_aload_n hx hb dX11_laysBeats_21 rfl (lv_at hl 0 rfl) ?_
        refine g_get (ci := 11) (k := 2) (val := .ref (E.ad 63)) C g_us hW rfl rfl rfl (in_sid _ rfl) (by decide) f_RX11_17 rfl dX11_laysBeats_22 ?_
        refine lv_iload hx hb dX11_laysBeats_25 (lv_at hl 4 rfl) ?_
        refine lv_aload_n hx hb dX11_laysBeats_27 rfl (lv_at hl 0 rfl) ?_
        refine lv_iload hx hb dX11_laysBeats_28 (lv_at hl 4 rfl) ?_
        refine lv_iconst (v := 0) hx hb dX11_laysBeats_30 (by decide) ?_
        replace hf := bd_so hf
        obtain ⟨x7, h6, hf⟩ := hf
        refine g_callVi (ci := 11) (As := [.int v4, .int 0]) (rest := [.int v4, .ref (E.ad 63)]) C g_us hW hl.1 (c_X11_of l E S v4 0 _ h6) rfl rfl rfl (in_sid _ rfl) k_RX11_76 rfl ⟨rfl, rfl⟩ ⟨Nat.le_of_ble_eq_true rfl, Nat.le_of_ble_eq_true rfl⟩ ⟨Nat.zero_le _, Nat.zero_le _⟩ _ rfl (Nat.le_of_ble_eq_true rfl) dX11_laysBeats_31 (fun H locs hW => ?_)
        refine lv_iconst (v := 2) hx hb dX11_laysBeats_34 (by decide) ?_
        replace hf := bd_so hf
        obtain ⟨x9, h10, hf⟩ := hf
        have J11 : ∀ (H : Heap) (locs : List Loc) (ls : Array Slot), Ww E S s H locs → lv_has ls 9 [(0, .ref (E.ad 60)), (1, .int v1), (2, .int v2), (3, .int v3), (4, .int v4)] → W p l e rm_X11_laysBeats s m args below meth c H locs 0 0 Q (F0 m 50 ls [.int x9, .int v4, .ref (E.ad 63)]) := by
          intro H locs ls hW hl
          replace hf := bd_so hf
          obtain ⟨S12, h13, hf⟩ := hf
          refine g_iast C hW h13 dX11_laysBeats_50 (fun H locs hW => ?_)
          refine lv_iinc (v := (v4 + 1)) (lv' := [(4, .int (v4 + 1)), (0, .ref (E.ad 60)), (1, .int v1), (2, .int v2), (3, .int v3)]) hx hb dX11_laysBeats_51 hl (k := 4) rfl rfl (by decide) rfl (fun ls hl => ?_)
          refine lv_goto (tgt := 12) hx hb dX11_laysBeats_54 (by decide) ?_
          exact ih _ _ _ _ _ hW (lv_sub hl [1, 2, 3, 4, 0] rfl) hf kE
        clear hf
        have hf := h10
        clear h10
        refine lv_icmp_ne (tgt := 49) hx hb dX11_laysBeats_35 (by decide) (fun c8 => ?_) (fun c8 => ?_)
        · replace hf := iff_ hf c8
          refine lv_iconst (v := 0) hx hb dX11_laysBeats_49 (by decide) ?_
          obtain rfl := so1 hf
          exact J11 _ _ _ hW (lv_sub hl [0, 1, 2, 3, 4] rfl)
        · replace hf := ift_ hf c8
          refine lv_aload_n hx hb dX11_laysBeats_38 rfl (lv_at hl 0 rfl) ?_
          refine lv_iload hx hb dX11_laysBeats_39 (lv_at hl 4 rfl) ?_
          refine lv_iconst (v := 3) hx hb dX11_laysBeats_41 (by decide) ?_
          replace hf := bd_so hf
          obtain ⟨x15, h14, hf⟩ := hf
          refine g_callVi (ci := 11) (As := [.int v4, .int 3]) (rest := [.int v4, .ref (E.ad 63)]) C g_us hW hl.1 (c_X11_of l E S v4 3 _ h14) rfl rfl rfl (in_sid _ rfl) k_RX11_76 rfl ⟨rfl, rfl⟩ ⟨Nat.le_of_ble_eq_true rfl, Nat.le_of_ble_eq_true rfl⟩ ⟨Nat.zero_le _, Nat.zero_le _⟩ _ rfl (Nat.le_of_ble_eq_true rfl) dX11_laysBeats_42 (fun H locs hW => ?_)
          refine lv_ineg hx hb dX11_laysBeats_45 ?_
          refine lv_goto (tgt := 50) hx hb dX11_laysBeats_46 (by decide) ?_
          obtain rfl := so1 hf
          exact J11 _ _ _ hW (lv_sub hl [0, 1, 2, 3, 4] rfl)
  have X11_laysBeats_L69_c : ∀ (v1 : Int32) (v2 : Int32) (v3 : Int32) (v4 : Int32) (res : St) (n : Nat) (v5 : Int32) (S : St) (H : Heap) (locs : List Loc) (ls : Array Slot), Ww E S s H locs → lv_has ls 9 [(0, .ref (E.ad 60)), (1, .int v1), (2, .int v2), (3, .int v3), (4, .int v4), (5, .int v5)] → X11_laysBeats_L69 v1 v2 v3 v4 n v5 S = some res → (∀ (T : St) (H : Heap) (locs : List Loc) (ls : Array Slot), some T = some res → Ww E T s H locs → lv_has ls 9 [(0, .ref (E.ad 60)), (1, .int v1), (2, .int v2), (3, .int v3), (4, .int v4)] → W p l e rm_X11_laysBeats s m args below meth c H locs 0 0 Q (F0 m 214 ls [])) → W p l e rm_X11_laysBeats s m args below meth c H locs 0 0 Q (F0 m 69 ls []) := by
    intro v1 v2 v3 v4 res n
    induction n with
    | zero =>
      intro v5 S H locs ls hW hl hf
      cases hf
    | succ n ih =>
      intro v5 S H locs ls hW hl hf kE
      unfold X11_laysBeats_L69 at hf
      refine lv_iload hx hb dX11_laysBeats_69 (lv_at hl 5 rfl) ?_
      refine lv_aload_n hx hb dX11_laysBeats_71 rfl (lv_at hl 0 rfl) ?_
      replace hf := bd_so hf
      obtain ⟨x20, h19, hf⟩ := hf
      refine g_callVi (ci := 11) (As := []) (rest := [.int v5]) C g_us hW hl.1 (c_X11_rooms l E S  _ h19) rfl rfl rfl (in_sid _ rfl) k_RX11_82 rfl ⟨rfl, rfl⟩ ⟨Nat.le_of_ble_eq_true rfl, Nat.le_of_ble_eq_true rfl⟩ ⟨Nat.zero_le _, Nat.zero_le _⟩ _ rfl (Nat.le_of_ble_eq_true rfl) dX11_laysBeats_72 (fun H locs hW => ?_)
      refine lv_icmp_ge (tgt := 214) hx hb dX11_laysBeats_75 (by decide) (fun c21 => ?_) (fun c21 => ?_)
      · replace hf := ift_ hf c21
        exact kE _ _ _ _ hf hW (lv_sub hl [0, 1, 2, 3, 4] rfl)
      · replace hf := iff_ hf c21
        refine lv_aload_n hx hb dX11_laysBeats_78 rfl (lv_at hl 0 rfl) ?_
        refine lv_iload hx hb dX11_laysBeats_79 (lv_at hl 5 rfl) ?_
        refine lv_iconst (v := 0) hx hb dX11_laysBeats_81 (by decide) ?_
        replace hf := bd_so hf
        obtain ⟨x23, h22, hf⟩ := hf
        refine g_callVi (ci := 11) (As := [.int v5, .int 0]) (rest := []) C g_us hW hl.1 (c_X11_of l E S v5 0 _ h22) rfl rfl rfl (in_sid _ rfl) k_RX11_76 rfl ⟨rfl, rfl⟩ ⟨Nat.le_of_ble_eq_true rfl, Nat.le_of_ble_eq_true rfl⟩ ⟨Nat.zero_le _, Nat.zero_le _⟩ _ rfl (Nat.le_of_ble_eq_true rfl) dX11_laysBeats_82 (fun H locs hW => ?_)
        refine lv_istore (lv' := [(6, .int x23), (0, .ref (E.ad 60)), (1, .int v1), (2, .int v2), (3, .int v3), (4, .int v4), (5, .int v5)]) hx hb dX11_laysBeats_85 hl (by decide) rfl (fun ls hl => ?_)
        refine lv_aload_n hx hb dX11_laysBeats_87 rfl (lv_at hl 1 rfl) ?_
        refine g_get (ci := 11) (k := 2) (val := .ref (E.ad 63)) C g_us hW rfl rfl rfl (in_sid _ rfl) (by decide) f_RX11_17 rfl dX11_laysBeats_88 ?_
        refine lv_bipush (v := 8) hx hb dX11_laysBeats_91 (by decide) ?_
        refine lv_iload hx hb dX11_laysBeats_93 (lv_at hl 5 rfl) ?_
        refine lv_iconst (v := 1) hx hb dX11_laysBeats_95 (by decide) ?_
        refine lv_isub hx hb dX11_laysBeats_96 ?_
        refine lv_imul hx hb dX11_laysBeats_97 ?_
        refine lv_iload hx hb dX11_laysBeats_98 (lv_at hl 6 rfl) ?_
        refine lv_iadd hx hb dX11_laysBeats_100 ?_
        replace hf := bd_so hf
        obtain ⟨x24, h25, hf⟩ := hf
        refine g_iald C hW h25 dX11_laysBeats_101 ?_
        refine lv_istore (lv' := [(7, .int x24), (6, .int x23), (0, .ref (E.ad 60)), (1, .int v1), (2, .int v2), (3, .int v3), (4, .int v4), (5, .int v5)]) hx hb dX11_laysBeats_102 hl (by decide) rfl (fun ls hl => ?_)
        refine lv_iload hx hb dX11_laysBeats_104 (lv_at hl 0 rfl) ?_
        refine lv_iload_n hx hb dX11_laysBeats_106 rfl (lv_at hl 5 rfl) ?_
        refine lv_iadd hx hb dX11_laysBeats_107 ?_
        refine lv_aload_n hx hb dX11_laysBeats_108 rfl (lv_at hl 2 rfl) ?_
        refine lv_iload hx hb dX11_laysBeats_109 (lv_at hl 7 rfl) ?_
        refine lv_iconst (v := 1) hx hb dX11_laysBeats_111 (by decide) ?_
        replace hf := bd_so hf
        obtain ⟨x27, h26, hf⟩ := hf
        refine g_callVi (ci := 11) (As := [.int v5, .int 1]) (rest := [.int (x24 + v3)]) C g_us hW hl.1 (c_X11_of l E S v5 1 _ h26) rfl rfl rfl (in_sid _ rfl) k_RX11_76 rfl ⟨rfl, rfl⟩ ⟨Nat.le_of_ble_eq_true rfl, Nat.le_of_ble_eq_true rfl⟩ ⟨Nat.zero_le _, Nat.zero_le _⟩ _ rfl (Nat.le_of_ble_eq_true rfl) dX11_laysBeats_112 (fun H locs hW => ?_)
        refine lv_iadd hx hb dX11_laysBeats_115 ?_
        refine lv_aload_n hx hb dX11_laysBeats_116 rfl (lv_at hl 2 rfl) ?_
        refine lv_iload hx hb dX11_laysBeats_117 (lv_at hl 7 rfl) ?_
        refine lv_iconst (v := 2) hx hb dX11_laysBeats_119 (by decide) ?_
        replace hf := bd_so hf
        obtain ⟨x29, h28, hf⟩ := hf
        refine g_callVi (ci := 11) (As := [.int v5, .int 2]) (rest := [.int ((x24 + v3) + x27)]) C g_us hW hl.1 (c_X11_of l E S v5 2 _ h28) rfl rfl rfl (in_sid _ rfl) k_RX11_76 rfl ⟨rfl, rfl⟩ ⟨Nat.le_of_ble_eq_true rfl, Nat.le_of_ble_eq_true rfl⟩ ⟨Nat.zero_le _, Nat.zero_le _⟩ _ rfl (Nat.le_of_ble_eq_true rfl) dX11_laysBeats_120 (fun H locs hW => ?_)
        refine lv_aload_n hx hb dX11_laysBeats_123 rfl (lv_at hl 2 rfl) ?_
        refine lv_iload hx hb dX11_laysBeats_124 (lv_at hl 7 rfl) ?_
        refine lv_iload hx hb dX11_laysBeats_126 (lv_at hl 6 rfl) ?_
        refine lv_iconst (v := 1) hx hb dX11_laysBeats_128 (by decide) ?_
        refine lv_isub hx hb dX11_laysBeats_129 ?_
        refine lv_iload_n hx hb dX11_laysBeats_130 rfl (lv_at hl 4 rfl) ?_
        replace hf := bd_so hf
        obtain ⟨x31, h30, hf⟩ := hf
        refine g_callVi (ci := 11) (As := [.int v5, .int (v4 - 1), .int v2]) (rest := [.int x29, .int ((x24 + v3) + x27)]) C g_us hW hl.1 (c_X11_pull l E S v5 (v4 - 1) v2 _ h30) rfl rfl rfl (in_sid _ rfl) k_RX11_114 rfl ⟨rfl, rfl⟩ ⟨Nat.le_of_ble_eq_true rfl, Nat.le_of_ble_eq_true rfl⟩ ⟨Nat.zero_le _, Nat.zero_le _⟩ _ rfl (Nat.le_of_ble_eq_true rfl) dX11_laysBeats_131 (fun H locs hW => ?_)
        refine lv_imul hx hb dX11_laysBeats_134 ?_
        refine lv_bipush (v := 100) hx hb dX11_laysBeats_135 (by decide) ?_
        replace hf := bd_so hf
        obtain ⟨x32, h33, hf⟩ := hf
        refine g_idiv C h33 dX11_laysBeats_137 ?_
        refine lv_iadd hx hb dX11_laysBeats_138 ?_
        refine lv_istore (lv' := [(8, .int (((x24 + v3) + x27) + x32)), (7, .int x24), (6, .int x23), (0, .ref (E.ad 60)), (1, .int v1), (2, .int v2), (3, .int v3), (4, .int v4), (5, .int v5)]) hx hb dX11_laysBeats_139 hl (by decide) rfl (fun ls hl => ?_)
        refine lv_iload hx hb dX11_laysBeats_141 (lv_at hl 0 rfl) ?_
        refine lv_iload hx hb dX11_laysBeats_143 (lv_at hl 1 rfl) ?_
        replace hf := bd_so hf
        obtain ⟨x35, h36, hf⟩ := hf
        have J37 : ∀ (H : Heap) (locs : List Loc) (ls : Array Slot), Ww E S s H locs → lv_has ls 9 [(0, .ref (E.ad 60)), (1, .int v1), (2, .int v2), (3, .int v3), (4, .int v4), (5, .int v5), (6, .int x23)] → W p l e rm_X11_laysBeats s m args below meth c H locs 0 0 Q (F0 m 157 ls [.int x35]) := by
          intro H locs ls hW hl
          refine lv_istore (lv' := [(8, .int x35), (0, .ref (E.ad 60)), (1, .int v1), (2, .int v2), (3, .int v3), (4, .int v4), (5, .int v5), (6, .int x23)]) hx hb dX11_laysBeats_157 hl (by decide) rfl (fun ls hl => ?_)
          refine lv_aload_n hx hb dX11_laysBeats_159 rfl (lv_at hl 1 rfl) ?_
          refine g_get (ci := 11) (k := 2) (val := .ref (E.ad 63)) C g_us hW rfl rfl rfl (in_sid _ rfl) (by decide) f_RX11_17 rfl dX11_laysBeats_160 ?_
          refine lv_bipush (v := 8) hx hb dX11_laysBeats_163 (by decide) ?_
          refine lv_iload hx hb dX11_laysBeats_165 (lv_at hl 5 rfl) ?_
          refine lv_imul hx hb dX11_laysBeats_167 ?_
          refine lv_iload hx hb dX11_laysBeats_168 (lv_at hl 6 rfl) ?_
          refine lv_iadd hx hb dX11_laysBeats_170 ?_
          refine lv_iload hx hb dX11_laysBeats_171 (lv_at hl 7 rfl) ?_
          refine lv_iconst (v := 1) hx hb dX11_laysBeats_173 (by decide) ?_
          replace hf := bd_so hf
          obtain ⟨x39, h40, hf⟩ := hf
          have J41 : ∀ (H : Heap) (locs : List Loc) (ls : Array Slot), Ww E S s H locs → lv_has ls 9 [(0, .ref (E.ad 60)), (1, .int v1), (2, .int v2), (3, .int v3), (4, .int v4), (5, .int v5)] → W p l e rm_X11_laysBeats s m args below meth c H locs 0 0 Q (F0 m 207 ls [.int x39, .int ((8 * v4) + v5), .ref (E.ad 63)]) := by
            intro H locs ls hW hl
            replace hf := bd_so hf
            obtain ⟨S42, h43, hf⟩ := hf
            refine g_iast C hW h43 dX11_laysBeats_207 (fun H locs hW => ?_)
            refine lv_iinc (v := (v5 + 1)) (lv' := [(5, .int (v5 + 1)), (0, .ref (E.ad 60)), (1, .int v1), (2, .int v2), (3, .int v3), (4, .int v4)]) hx hb dX11_laysBeats_208 hl (k := 5) rfl rfl (by decide) rfl (fun ls hl => ?_)
            refine lv_goto (tgt := 69) hx hb dX11_laysBeats_211 (by decide) ?_
            exact ih _ _ _ _ _ hW (lv_sub hl [1, 2, 3, 4, 5, 0] rfl) hf kE
          clear hf
          have hf := h40
          clear h40
          refine lv_icmp_ne (tgt := 184) hx hb dX11_laysBeats_174 (by decide) (fun c38 => ?_) (fun c38 => ?_)
          · replace hf := iff_ hf c38
            refine lv_iload hx hb dX11_laysBeats_184 (lv_at hl 7 rfl) ?_
            refine lv_iconst (v := 2) hx hb dX11_laysBeats_186 (by decide) ?_
            refine lv_icmp_ne (tgt := 205) hx hb dX11_laysBeats_187 (by decide) (fun c44 => ?_) (fun c44 => ?_)
            · replace hf := iff_ hf c44
              refine lv_iload hx hb dX11_laysBeats_205 (lv_at hl 0 rfl) ?_
              obtain rfl := so1 hf
              exact J41 _ _ _ hW (lv_sub hl [1, 2, 3, 4, 5, 6] rfl)
            · replace hf := ift_ hf c44
              refine lv_iload hx hb dX11_laysBeats_190 (lv_at hl 5 rfl) ?_
              refine lv_iload_n hx hb dX11_laysBeats_192 rfl (lv_at hl 4 rfl) ?_
              refine lv_imul hx hb dX11_laysBeats_193 ?_
              refine lv_aload_n hx hb dX11_laysBeats_194 rfl (lv_at hl 1 rfl) ?_
              refine lv_iload hx hb dX11_laysBeats_195 (lv_at hl 6 rfl) ?_
              refine lv_iconst (v := 3) hx hb dX11_laysBeats_197 (by decide) ?_
              replace hf := bd_so hf
              obtain ⟨x46, h45, hf⟩ := hf
              refine g_callVi (ci := 11) (As := [.int v5, .int 3]) (rest := [.int (v4 * v3), .int ((8 * v4) + v5), .ref (E.ad 63)]) C g_us hW hl.1 (c_X11_of l E S v5 3 _ h45) rfl rfl rfl (in_sid _ rfl) k_RX11_76 rfl ⟨rfl, rfl⟩ ⟨Nat.le_of_ble_eq_true rfl, Nat.le_of_ble_eq_true rfl⟩ ⟨Nat.zero_le _, Nat.zero_le _⟩ _ rfl (Nat.le_of_ble_eq_true rfl) dX11_laysBeats_198 (fun H locs hW => ?_)
              refine lv_isub hx hb dX11_laysBeats_201 ?_
              refine lv_goto (tgt := 207) hx hb dX11_laysBeats_202 (by decide) ?_
              obtain rfl := so1 hf
              exact J41 _ _ _ hW (lv_sub hl [1, 2, 3, 4, 5, 6] rfl)
          · replace hf := ift_ hf c38
            refine lv_iload hx hb dX11_laysBeats_177 (lv_at hl 5 rfl) ?_
            refine lv_iload_n hx hb dX11_laysBeats_179 rfl (lv_at hl 4 rfl) ?_
            refine lv_imul hx hb dX11_laysBeats_180 ?_
            refine lv_goto (tgt := 207) hx hb dX11_laysBeats_181 (by decide) ?_
            obtain rfl := so1 hf
            exact J41 _ _ _ hW (lv_sub hl [1, 2, 3, 4, 5, 6] rfl)
        clear hf
        have hf := h36
        clear h36
        refine lv_icmp_le (tgt := 153) hx hb dX11_laysBeats_145 (by decide) (fun c34 => ?_) (fun c34 => ?_)
        · replace hf := ift_ hf c34
          refine lv_iload hx hb dX11_laysBeats_153 (lv_at hl 1 rfl) ?_
          refine lv_iconst (v := 1) hx hb dX11_laysBeats_155 (by decide) ?_
          refine lv_iadd hx hb dX11_laysBeats_156 ?_
          obtain rfl := so1 hf
          exact J37 _ _ _ hW (lv_sub hl [3, 4, 5, 6, 7, 8, 2] rfl)
        · replace hf := iff_ hf c34
          refine lv_iload hx hb dX11_laysBeats_148 (lv_at hl 0 rfl) ?_
          refine lv_goto (tgt := 157) hx hb dX11_laysBeats_150 (by decide) ?_
          obtain rfl := so1 hf
          exact J37 _ _ _ hW (lv_sub hl [3, 4, 5, 6, 7, 8, 2] rfl)
  have X11_laysBeats_L60_c : ∀ (v1 : Int32) (v2 : Int32) (v3 : Int32) (res : St) (n : Nat) (v4 : Int32) (S : St) (H : Heap) (locs : List Loc) (ls : Array Slot), Ww E S s H locs → lv_has ls 9 [(0, .ref (E.ad 60)), (1, .int v1), (2, .int v2), (3, .int v3), (4, .int v4)] → X11_laysBeats_L60 v1 v2 v3 n v4 S = some res → (∀ (T : St) (H : Heap) (locs : List Loc) (ls : Array Slot), some T = some res → Ww E T s H locs → lv_has ls 9 [] → W p l e rm_X11_laysBeats s m args below meth c H locs 0 0 Q (F0 m 220 ls [])) → W p l e rm_X11_laysBeats s m args below meth c H locs 0 0 Q (F0 m 60 ls []) := by
    intro v1 v2 v3 res n
    induction n with
    | zero =>
      intro v4 S H locs ls hW hl hf
      cases hf
    | succ n ih =>
      intro v4 S H locs ls hW hl hf kE
      unfold X11_laysBeats_L60 at hf
      refine lv_iload hx hb dX11_laysBeats_60 (lv_at hl 4 rfl) ?_
      refine lv_iload_n hx hb dX11_laysBeats_62 rfl (lv_at hl 1 rfl) ?_
      refine lv_icmp_gt (tgt := 220) hx hb dX11_laysBeats_63 (by decide) (fun c18 => ?_) (fun c18 => ?_)
      · replace hf := ift_ hf c18
        exact kE _ _ _ _ hf hW (lv_sub hl [] rfl)
      · replace hf := iff_ hf c18
        refine lv_iconst (v := 0) hx hb dX11_laysBeats_66 (by decide) ?_
        refine lv_istore (lv' := [(5, .int 0), (0, .ref (E.ad 60)), (1, .int v1), (2, .int v2), (3, .int v3), (4, .int v4)]) hx hb dX11_laysBeats_67 hl (by decide) rfl (fun ls hl => ?_)
        replace hf := bd_so hf
        obtain ⟨S47, h48, hf⟩ := hf
        have J49 : ∀ (H : Heap) (locs : List Loc) (ls : Array Slot), Ww E S47 s H locs → lv_has ls 9 [(0, .ref (E.ad 60)), (1, .int v1), (2, .int v2), (3, .int v3), (4, .int v4)] → W p l e rm_X11_laysBeats s m args below meth c H locs 0 0 Q (F0 m 214 ls []) := by
          intro H locs ls hW hl
          refine lv_iinc (v := (v4 + 1)) (lv' := [(4, .int (v4 + 1)), (0, .ref (E.ad 60)), (1, .int v1), (2, .int v2), (3, .int v3)]) hx hb dX11_laysBeats_214 hl (k := 4) rfl rfl (by decide) rfl (fun ls hl => ?_)
          refine lv_goto (tgt := 60) hx hb dX11_laysBeats_217 (by decide) ?_
          exact ih _ _ _ _ _ hW (lv_sub hl [1, 2, 3, 4, 0] rfl) hf kE
        exact X11_laysBeats_L69_c _ _ _ _ _ FU _ _ _ _ _ hW (lv_sub hl [1, 2, 3, 4, 5, 0] rfl) h48 (fun _ H locs ls e hW hl => by cases e; exact J49 H locs ls hW hl)
  unfold X11_laysBeats at hf
  refine lv_aload_n hx hb dX11_laysBeats_0 rfl (lv_at hl 0 rfl) ?_
  refine g_get (ci := 11) (k := 0) (val := .ref (E.ad 61)) C g_us hW rfl rfl rfl (in_sid _ rfl) (by decide) f_RX11_7 rfl dX11_laysBeats_1 ?_
  refine lv_sipush (v := 128) hx hb dX11_laysBeats_4 (by decide) ?_
  replace hf := bd_so hf
  obtain ⟨x1, h2, hf⟩ := hf
  refine g_iald C hW h2 dX11_laysBeats_7 ?_
  refine lv_istore_n (lv' := [(3, .int x1), (0, .ref (E.ad 60)), (1, .int a1), (2, .int a2)]) hx hb dX11_laysBeats_8 rfl hl (by decide) rfl (fun ls hl => ?_)
  refine lv_iconst (v := 0) hx hb dX11_laysBeats_9 (by decide) ?_
  refine lv_istore (lv' := [(4, .int 0), (3, .int x1), (0, .ref (E.ad 60)), (1, .int a1), (2, .int a2)]) hx hb dX11_laysBeats_10 hl (by decide) rfl (fun ls hl => ?_)
  replace hf := bd_so hf
  obtain ⟨S16, h17, hf⟩ := hf
  have J53 : ∀ (H : Heap) (locs : List Loc) (ls : Array Slot), Ww E S16 s H locs → lv_has ls 9 [(0, .ref (E.ad 60)), (1, .int a1), (2, .int a2), (3, .int x1)] → W p l e rm_X11_laysBeats s m args below meth c H locs 0 0 Q (F0 m 57 ls []) := by
    intro H locs ls hW hl
    refine lv_iconst (v := 1) hx hb dX11_laysBeats_57 (by decide) ?_
    refine lv_istore (lv' := [(4, .int 1), (0, .ref (E.ad 60)), (1, .int a1), (2, .int a2), (3, .int x1)]) hx hb dX11_laysBeats_58 hl (by decide) rfl (fun ls hl => ?_)
    replace hf := bd_so hf
    obtain ⟨S50, h51, hf⟩ := hf
    have J52 : ∀ (H : Heap) (locs : List Loc) (ls : Array Slot), Ww E S50 s H locs → lv_has ls 9 [] → W p l e rm_X11_laysBeats s m args below meth c H locs 0 0 Q (F0 m 220 ls []) := by
      intro H locs ls hW hl
      obtain rfl := so1 hf
      exact kR _ _ _ _ hW dX11_laysBeats_220
    exact X11_laysBeats_L60_c _ _ _ _ FU _ _ _ _ _ hW (lv_sub hl [1, 2, 3, 4, 0] rfl) h51 (fun _ H locs ls e hW hl => by cases e; exact J52 H locs ls hW hl)
  exact X11_laysBeats_L12_c _ _ _ _ FU _ _ _ _ _ hW (lv_sub hl [2, 3, 4, 1, 0] rfl) h17 (fun _ H locs ls e hW hl => by cases e; exact J53 H locs ls hW hl)

abbrev rm_X11_time : Room := { frames := 5, cells := 0, slots := 0, locals := 159 }
set_option maxHeartbeats 4000000 in
set_option maxRecDepth 100000 in
theorem c_X11_time (l : Launch) (E : En) (S : St) (a1 : Int32) (a2 : Int32) (r : Int32) (S1 : St) (hf : X11_time S a1 a2 = some (r, S1)) : Mi l E yX11_time cX11_time 3 (some .int) rm_X11_time [.ref (E.ad 60), .int a1, .int a2] S r S1 := by
  refine g_startI (cc := cX11_time) (n := 3) (by decide) (Nat.le_of_ble_eq_true rfl) ?_
  intro p e s m args below meth c Q H locs C kR hW ls hl
  obtain ⟨⟨hx, hb, hml, hown, hts⟩, hK, hT⟩ := id C
  have hl : lv_has ls 3 [(0, .ref (E.ad 60)), (1, .int a1), (2, .int a2)] := hl
  unfold X11_time at hf
  refine lv_aload_n hx hb dX11_time_0 rfl (lv_at hl 0 rfl) ?_
  refine lv_iload_n hx hb dX11_time_1 rfl (lv_at hl 1 rfl) ?_
  replace hf := bd_so hf
  obtain ⟨x2, h1, hf⟩ := hf
  refine g_callVi (ci := 11) (As := [.int a1]) (rest := []) C g_us hW hl.1 (c_X11_isRoom l E S a1 _ h1) rfl rfl rfl (in_sid _ rfl) k_RX11_86 rfl ⟨rfl, rfl⟩ ⟨Nat.le_of_ble_eq_true rfl, Nat.le_of_ble_eq_true rfl⟩ ⟨Nat.zero_le _, Nat.zero_le _⟩ _ rfl (Nat.le_of_ble_eq_true rfl) dX11_time_2 (fun H locs hW => ?_)
  refine lv_if_eq (tgt := 20) hx hb dX11_time_5 (by decide) (fun c3 => ?_) (fun c3 => ?_)
  · replace hf := ift_ hf c3
    refine lv_ldc hx hb hown (hts _ (g_us _ q_RX11_120)) dX11_time_20 ?_
    obtain ⟨rfl, rfl⟩ := so2 hf
    exact kR _ _ _ _ hW dX11_time_22
  · replace hf := iff_ hf c3
    refine lv_iload_n hx hb dX11_time_8 rfl (lv_at hl 2 rfl) ?_
    refine lv_i2l (v := (a2 : Int32).toInt64) hx hb dX11_time_9 rfl ?_
    refine lv_lconst (v := 0) hx hb dX11_time_10 (by decide) ?_
    refine lv_ldc2 hx hb hown (hts _ (g_us _ q_RX11_118)) dX11_time_11 ?_
    replace hf := bd_so hf
    obtain ⟨x5, h4, hf⟩ := hf
    refine g_callSi (As := [.long ((a2 : Int32).toInt64), .long 0, .long 40]) (rest := []) C g_us hW hl.1 (c_X11_in l E S ((a2 : Int32).toInt64) 0 40 _ h4) k_RX11_72 rfl ⟨rfl, rfl⟩ ⟨Nat.le_of_ble_eq_true rfl, Nat.le_of_ble_eq_true rfl⟩ ⟨Nat.zero_le _, Nat.zero_le _⟩ _ rfl (Nat.le_of_ble_eq_true rfl) dX11_time_14 (fun H locs hW => ?_)
    refine lv_if_ne (tgt := 23) hx hb dX11_time_17 (by decide) (fun c6 => ?_) (fun c6 => ?_)
    · replace hf := iff_ hf c6
      refine lv_aload_n hx hb dX11_time_23 rfl (lv_at hl 0 rfl) ?_
      refine lv_iload_n hx hb dX11_time_24 rfl (lv_at hl 1 rfl) ?_
      replace hf := bd_so hf
      obtain ⟨x8, h7, hf⟩ := hf
      refine g_callVi (ci := 11) (As := [.int a1]) (rest := []) C g_us hW hl.1 (c_X11_sings l E S a1 _ h7) rfl rfl rfl (in_sid _ rfl) k_RX11_111 rfl ⟨rfl, rfl⟩ ⟨Nat.le_of_ble_eq_true rfl, Nat.le_of_ble_eq_true rfl⟩ ⟨Nat.zero_le _, Nat.zero_le _⟩ _ rfl (Nat.le_of_ble_eq_true rfl) dX11_time_25 (fun H locs hW => ?_)
      refine lv_if_ne (tgt := 34) hx hb dX11_time_28 (by decide) (fun c9 => ?_) (fun c9 => ?_)
      · replace hf := iff_ hf c9
        refine lv_aload_n hx hb dX11_time_34 rfl (lv_at hl 0 rfl) ?_
        refine lv_iload_n hx hb dX11_time_35 rfl (lv_at hl 2 rfl) ?_
        refine lv_iconst (v := 0) hx hb dX11_time_36 (by decide) ?_
        replace hf := bd_so hf
        obtain ⟨S11, h10, hf⟩ := hf
        refine g_callVv (ci := 11) (As := [.int a2, .int 0]) (rest := []) C g_us hW hl.1 (c_X11_laysBeats l E S a2 0 _ h10) rfl rfl rfl (in_sid _ rfl) k_RX11_122 rfl ⟨rfl, rfl⟩ ⟨Nat.le_of_ble_eq_true rfl, Nat.le_of_ble_eq_true rfl⟩ ⟨Nat.zero_le _, Nat.zero_le _⟩ _ rfl (Nat.le_of_ble_eq_true rfl) dX11_time_37 (fun H locs hW => ?_)
        refine lv_aload_n hx hb dX11_time_40 rfl (lv_at hl 0 rfl) ?_
        refine g_get (ci := 11) (k := 2) (val := .ref (E.ad 63)) C g_us hW rfl rfl rfl (in_sid _ rfl) (by decide) f_RX11_17 rfl dX11_time_41 ?_
        refine lv_bipush (v := 8) hx hb dX11_time_44 (by decide) ?_
        refine lv_iload_n hx hb dX11_time_46 rfl (lv_at hl 2 rfl) ?_
        refine lv_imul hx hb dX11_time_47 ?_
        refine lv_iload_n hx hb dX11_time_48 rfl (lv_at hl 1 rfl) ?_
        refine lv_iadd hx hb dX11_time_49 ?_
        replace hf := bd_so hf
        obtain ⟨x12, h13, hf⟩ := hf
        refine g_iald C hW h13 dX11_time_50 ?_
        obtain ⟨rfl, rfl⟩ := so2 hf
        exact kR _ _ _ _ hW dX11_time_51
      · replace hf := ift_ hf c9
        refine lv_ldc hx hb hown (hts _ (g_us _ q_RX11_121)) dX11_time_31 ?_
        obtain ⟨rfl, rfl⟩ := so2 hf
        exact kR _ _ _ _ hW dX11_time_33
    · replace hf := ift_ hf c6
      refine lv_ldc hx hb hown (hts _ (g_us _ q_RX11_120)) dX11_time_20 ?_
      obtain ⟨rfl, rfl⟩ := so2 hf
      exact kR _ _ _ _ hW dX11_time_22

abbrev rm_X11_singers : Room := { frames := 3, cells := 0, slots := 0, locals := 103 }
set_option maxHeartbeats 4000000 in
set_option maxRecDepth 100000 in
theorem c_X11_singers (l : Launch) (E : En) (S : St) (r : Int32) (hf : X11_singers S  = some r) : Mi l E yX11_singers cX11_singers 3 (some .int) rm_X11_singers [.ref (E.ad 60)] S r S := by
  refine g_startI (cc := cX11_singers) (n := 3) (by decide) (Nat.le_of_ble_eq_true rfl) ?_
  intro p e s m args below meth c Q H locs C kR hW ls hl
  obtain ⟨⟨hx, hb, hml, hown, hts⟩, hK, hT⟩ := id C
  have hl : lv_has ls 3 [(0, .ref (E.ad 60))] := hl
  have X11_singers_L4_c : ∀ (S : St) (res : Int32) (n : Nat) (v1 : Int32) (v2 : Int32) (H : Heap) (locs : List Loc) (ls : Array Slot), Ww E S s H locs → lv_has ls 3 [(0, .ref (E.ad 60)), (1, .int v1), (2, .int v2)] → X11_singers_L4 S  n v1 v2 = some res → (∀ (w1 : Int32) (H : Heap) (locs : List Loc) (ls : Array Slot), some w1 = some res → Ww E S s H locs → lv_has ls 3 [(1, .int w1)] → W p l e rm_X11_singers s m args below meth c H locs 0 0 Q (F0 m 36 ls [])) → W p l e rm_X11_singers s m args below meth c H locs 0 0 Q (F0 m 4 ls []) := by
    intro S  res n
    induction n with
    | zero =>
      intro v1 v2 H locs ls hW hl hf
      cases hf
    | succ n ih =>
      intro v1 v2 H locs ls hW hl hf kE
      unfold X11_singers_L4 at hf
      refine lv_iload_n hx hb dX11_singers_4 rfl (lv_at hl 2 rfl) ?_
      refine lv_aload_n hx hb dX11_singers_5 rfl (lv_at hl 0 rfl) ?_
      replace hf := bd_so hf
      obtain ⟨x2, h1, hf⟩ := hf
      refine g_callVi (ci := 11) (As := []) (rest := [.int v2]) C g_us hW hl.1 (c_X11_rooms l E S  _ h1) rfl rfl rfl (in_sid _ rfl) k_RX11_82 rfl ⟨rfl, rfl⟩ ⟨Nat.le_of_ble_eq_true rfl, Nat.le_of_ble_eq_true rfl⟩ ⟨Nat.zero_le _, Nat.zero_le _⟩ _ rfl (Nat.le_of_ble_eq_true rfl) dX11_singers_6 (fun H locs hW => ?_)
      refine lv_icmp_ge (tgt := 36) hx hb dX11_singers_9 (by decide) (fun c3 => ?_) (fun c3 => ?_)
      · replace hf := ift_ hf c3
        exact kE _ _ _ _ hf hW (lv_sub hl [1] rfl)
      · replace hf := iff_ hf c3
        refine lv_iload_n hx hb dX11_singers_12 rfl (lv_at hl 1 rfl) ?_
        refine lv_aload_n hx hb dX11_singers_13 rfl (lv_at hl 0 rfl) ?_
        refine lv_iload_n hx hb dX11_singers_14 rfl (lv_at hl 2 rfl) ?_
        replace hf := bd_so hf
        obtain ⟨x5, h4, hf⟩ := hf
        refine g_callVi (ci := 11) (As := [.int v2]) (rest := [.int v1]) C g_us hW hl.1 (c_X11_sings l E S v2 _ h4) rfl rfl rfl (in_sid _ rfl) k_RX11_111 rfl ⟨rfl, rfl⟩ ⟨Nat.le_of_ble_eq_true rfl, Nat.le_of_ble_eq_true rfl⟩ ⟨Nat.zero_le _, Nat.zero_le _⟩ _ rfl (Nat.le_of_ble_eq_true rfl) dX11_singers_15 (fun H locs hW => ?_)
        replace hf := bd_so hf
        obtain ⟨x7, h8, hf⟩ := hf
        have J9 : ∀ (H : Heap) (locs : List Loc) (ls : Array Slot), Ww E S s H locs → lv_has ls 3 [(0, .ref (E.ad 60)), (2, .int v2)] → W p l e rm_X11_singers s m args below meth c H locs 0 0 Q (F0 m 28 ls [.int x7, .int v1]) := by
          intro H locs ls hW hl
          refine lv_ior hx hb dX11_singers_28 ?_
          refine lv_istore_n (lv' := [(1, .int (v1 ||| x7)), (0, .ref (E.ad 60)), (2, .int v2)]) hx hb dX11_singers_29 rfl hl (by decide) rfl (fun ls hl => ?_)
          refine lv_iinc (v := (v2 + 1)) (lv' := [(2, .int (v2 + 1)), (1, .int (v1 ||| x7)), (0, .ref (E.ad 60))]) hx hb dX11_singers_30 hl (k := 2) rfl rfl (by decide) rfl (fun ls hl => ?_)
          refine lv_goto (tgt := 4) hx hb dX11_singers_33 (by decide) ?_
          exact ih _ _ _ _ _ hW (lv_sub hl [2, 1, 0] rfl) hf kE
        clear hf
        have hf := h8
        clear h8
        refine lv_if_eq (tgt := 27) hx hb dX11_singers_18 (by decide) (fun c6 => ?_) (fun c6 => ?_)
        · replace hf := ift_ hf c6
          refine lv_iconst (v := 0) hx hb dX11_singers_27 (by decide) ?_
          obtain rfl := so1 hf
          exact J9 _ _ _ hW (lv_sub hl [0, 2] rfl)
        · replace hf := iff_ hf c6
          refine lv_iconst (v := 1) hx hb dX11_singers_21 (by decide) ?_
          refine lv_iload_n hx hb dX11_singers_22 rfl (lv_at hl 2 rfl) ?_
          refine lv_ishl hx hb dX11_singers_23 ?_
          refine lv_goto (tgt := 28) hx hb dX11_singers_24 (by decide) ?_
          obtain rfl := so1 hf
          exact J9 _ _ _ hW (lv_sub hl [0, 2] rfl)
  unfold X11_singers at hf
  refine lv_iconst (v := 0) hx hb dX11_singers_0 (by decide) ?_
  refine lv_istore_n (lv' := [(1, .int 0), (0, .ref (E.ad 60))]) hx hb dX11_singers_1 rfl hl (by decide) rfl (fun ls hl => ?_)
  refine lv_iconst (v := 0) hx hb dX11_singers_2 (by decide) ?_
  refine lv_istore_n (lv' := [(2, .int 0), (1, .int 0), (0, .ref (E.ad 60))]) hx hb dX11_singers_3 rfl hl (by decide) rfl (fun ls hl => ?_)
  replace hf := bd_so hf
  obtain ⟨x10, h11, hf⟩ := hf
  have J12 : ∀ (H : Heap) (locs : List Loc) (ls : Array Slot), Ww E S s H locs → lv_has ls 3 [(1, .int x10)] → W p l e rm_X11_singers s m args below meth c H locs 0 0 Q (F0 m 36 ls []) := by
    intro H locs ls hW hl
    refine lv_iload_n hx hb dX11_singers_36 rfl (lv_at hl 0 rfl) ?_
    obtain rfl := so1 hf
    exact kR _ _ _ _ hW dX11_singers_37
  exact X11_singers_L4_c _ _ FU _ _ _ _ _ hW (lv_sub hl [2, 1, 0] rfl) h11 (fun _ H locs ls e hW hl => by cases e; exact J12 H locs ls hW hl)

abbrev rm_X11_size : Room := { frames := 1, cells := 0, slots := 0, locals := 60 }
set_option maxHeartbeats 4000000 in
set_option maxRecDepth 100000 in
theorem c_X11_size (l : Launch) (E : En) (S : St) (a0 : Int32) (r : Int32) (hf : X11_size S a0 = some r) : Mi l E yX11_size cX11_size 3 (some .int) rm_X11_size [.int a0] S r S := by
  refine g_startI (cc := cX11_size) (n := 3) (by decide) (Nat.le_of_ble_eq_true rfl) ?_
  intro p e s m args below meth c Q H locs C kR hW ls hl
  obtain ⟨⟨hx, hb, hml, hown, hts⟩, hK, hT⟩ := id C
  have hl : lv_has ls 3 [(0, .int a0)] := hl
  have X11_size_L4_c : ∀ (S : St) (v0 : Int32) (res : Int32) (n : Nat) (v1 : Int32) (v2 : Int32) (H : Heap) (locs : List Loc) (ls : Array Slot), Ww E S s H locs → lv_has ls 3 [(0, .int v0), (1, .int v1), (2, .int v2)] → X11_size_L4 S v0 n v1 v2 = some res → (∀ (w1 : Int32) (H : Heap) (locs : List Loc) (ls : Array Slot), some w1 = some res → Ww E S s H locs → lv_has ls 3 [(1, .int w1)] → W p l e rm_X11_size s m args below meth c H locs 0 0 Q (F0 m 24 ls [])) → W p l e rm_X11_size s m args below meth c H locs 0 0 Q (F0 m 4 ls []) := by
    intro S v0 res n
    induction n with
    | zero =>
      intro v1 v2 H locs ls hW hl hf
      cases hf
    | succ n ih =>
      intro v1 v2 H locs ls hW hl hf kE
      unfold X11_size_L4 at hf
      refine lv_iload_n hx hb dX11_size_4 rfl (lv_at hl 2 rfl) ?_
      refine lv_bipush (v := 8) hx hb dX11_size_5 (by decide) ?_
      refine lv_icmp_ge (tgt := 24) hx hb dX11_size_7 (by decide) (fun c1 => ?_) (fun c1 => ?_)
      · replace hf := ift_ hf c1
        exact kE _ _ _ _ hf hW (lv_sub hl [1] rfl)
      · replace hf := iff_ hf c1
        refine lv_iload_n hx hb dX11_size_10 rfl (lv_at hl 1 rfl) ?_
        refine lv_iload_n hx hb dX11_size_11 rfl (lv_at hl 0 rfl) ?_
        refine lv_iload_n hx hb dX11_size_12 rfl (lv_at hl 2 rfl) ?_
        refine lv_ishr hx hb dX11_size_13 ?_
        refine lv_iconst (v := 1) hx hb dX11_size_14 (by decide) ?_
        refine lv_iand hx hb dX11_size_15 ?_
        refine lv_iadd hx hb dX11_size_16 ?_
        refine lv_istore_n (lv' := [(1, .int (v1 + ((v0 >>> (v2 &&& 31)) &&& 1))), (0, .int v0), (2, .int v2)]) hx hb dX11_size_17 rfl hl (by decide) rfl (fun ls hl => ?_)
        refine lv_iinc (v := (v2 + 1)) (lv' := [(2, .int (v2 + 1)), (1, .int (v1 + ((v0 >>> (v2 &&& 31)) &&& 1))), (0, .int v0)]) hx hb dX11_size_18 hl (k := 2) rfl rfl (by decide) rfl (fun ls hl => ?_)
        refine lv_goto (tgt := 4) hx hb dX11_size_21 (by decide) ?_
        exact ih _ _ _ _ _ hW (lv_sub hl [2, 1, 0] rfl) hf kE
  unfold X11_size at hf
  refine lv_iconst (v := 0) hx hb dX11_size_0 (by decide) ?_
  refine lv_istore_n (lv' := [(1, .int 0), (0, .int a0)]) hx hb dX11_size_1 rfl hl (by decide) rfl (fun ls hl => ?_)
  refine lv_iconst (v := 0) hx hb dX11_size_2 (by decide) ?_
  refine lv_istore_n (lv' := [(2, .int 0), (1, .int 0), (0, .int a0)]) hx hb dX11_size_3 rfl hl (by decide) rfl (fun ls hl => ?_)
  replace hf := bd_so hf
  obtain ⟨x2, h3, hf⟩ := hf
  have J4 : ∀ (H : Heap) (locs : List Loc) (ls : Array Slot), Ww E S s H locs → lv_has ls 3 [(1, .int x2)] → W p l e rm_X11_size s m args below meth c H locs 0 0 Q (F0 m 24 ls []) := by
    intro H locs ls hW hl
    refine lv_iload_n hx hb dX11_size_24 rfl (lv_at hl 0 rfl) ?_
    obtain rfl := so1 hf
    exact kR _ _ _ _ hW dX11_size_25
  exact X11_size_L4_c _ _ _ FU _ _ _ _ _ hW (lv_sub hl [2, 1, 0] rfl) h3 (fun _ H locs ls e hW hl => by cases e; exact J4 H locs ls hW hl)

abbrev rm_X11_paceBy : Room := { frames := 5, cells := 0, slots := 0, locals := 159 }
set_option maxHeartbeats 4000000 in
set_option maxRecDepth 100000 in
theorem c_X11_paceBy (l : Launch) (E : En) (S : St) (a1 : Int32) (a2 : Int32) (r : Int32) (S1 : St) (hf : X11_paceBy S a1 a2 = some (r, S1)) : Mi l E yX11_paceBy cX11_paceBy 6 (some .int) rm_X11_paceBy [.ref (E.ad 60), .int a1, .int a2] S r S1 := by
  refine g_startI (cc := cX11_paceBy) (n := 6) (by decide) (Nat.le_of_ble_eq_true rfl) ?_
  intro p e s m args below meth c Q H locs C kR hW ls hl
  obtain ⟨⟨hx, hb, hml, hown, hts⟩, hK, hT⟩ := id C
  have hl : lv_has ls 6 [(0, .ref (E.ad 60)), (1, .int a1), (2, .int a2)] := hl
  have X11_paceBy_L17_c : ∀ (S : St) (v1 : Int32) (v3 : Int32) (res : Int32) (n : Nat) (v4 : Int32) (v5 : Int32) (H : Heap) (locs : List Loc) (ls : Array Slot), Ww E S s H locs → lv_has ls 6 [(0, .ref (E.ad 60)), (1, .int v1), (3, .int v3), (4, .int v4), (5, .int v5)] → X11_paceBy_L17 S v1 v3 n v4 v5 = some res → (∀ (w4 : Int32) (H : Heap) (locs : List Loc) (ls : Array Slot), some w4 = some res → Ww E S s H locs → lv_has ls 6 [(3, .int v3), (4, .int w4)] → W p l e rm_X11_paceBy s m args below meth c H locs 0 0 Q (F0 m 78 ls [])) → W p l e rm_X11_paceBy s m args below meth c H locs 0 0 Q (F0 m 17 ls []) := by
    intro S v1 v3 res n
    induction n with
    | zero =>
      intro v4 v5 H locs ls hW hl hf
      cases hf
    | succ n ih =>
      intro v4 v5 H locs ls hW hl hf kE
      unfold X11_paceBy_L17 at hf
      refine lv_iload hx hb dX11_paceBy_17 (lv_at hl 4 rfl) ?_
      refine lv_aload_n hx hb dX11_paceBy_19 rfl (lv_at hl 0 rfl) ?_
      replace hf := bd_so hf
      obtain ⟨x6, h5, hf⟩ := hf
      refine g_callVi (ci := 11) (As := []) (rest := [.int v5]) C g_us hW hl.1 (c_X11_rooms l E S  _ h5) rfl rfl rfl (in_sid _ rfl) k_RX11_82 rfl ⟨rfl, rfl⟩ ⟨Nat.le_of_ble_eq_true rfl, Nat.le_of_ble_eq_true rfl⟩ ⟨Nat.zero_le _, Nat.zero_le _⟩ _ rfl (Nat.le_of_ble_eq_true rfl) dX11_paceBy_20 (fun H locs hW => ?_)
      refine lv_icmp_ge (tgt := 78) hx hb dX11_paceBy_23 (by decide) (fun c7 => ?_) (fun c7 => ?_)
      · replace hf := ift_ hf c7
        exact kE _ _ _ _ hf hW (lv_sub hl [2, 3] rfl)
      · replace hf := iff_ hf c7
        refine lv_iload hx hb dX11_paceBy_26 (lv_at hl 3 rfl) ?_
        refine lv_iload_n hx hb dX11_paceBy_28 rfl (lv_at hl 2 rfl) ?_
        refine lv_iload hx hb dX11_paceBy_29 (lv_at hl 4 rfl) ?_
        refine lv_ishr hx hb dX11_paceBy_31 ?_
        refine lv_iconst (v := 1) hx hb dX11_paceBy_32 (by decide) ?_
        refine lv_iand hx hb dX11_paceBy_33 ?_
        refine lv_iconst (v := 1) hx hb dX11_paceBy_34 (by decide) ?_
        replace hf := bd_so hf
        obtain ⟨x9, h10, hf⟩ := hf
        have J11 : ∀ (H : Heap) (locs : List Loc) (ls : Array Slot), Ww E S s H locs → lv_has ls 6 [(0, .ref (E.ad 60)), (1, .int v1), (3, .int v3), (5, .int v5)] → W p l e rm_X11_paceBy s m args below meth c H locs 0 0 Q (F0 m 69 ls [.int x9, .int v4]) := by
          intro H locs ls hW hl
          refine lv_iadd hx hb dX11_paceBy_69 ?_
          refine lv_istore (lv' := [(4, .int (v4 + x9)), (0, .ref (E.ad 60)), (1, .int v1), (3, .int v3), (5, .int v5)]) hx hb dX11_paceBy_70 hl (by decide) rfl (fun ls hl => ?_)
          refine lv_iinc (v := (v5 + 1)) (lv' := [(5, .int (v5 + 1)), (4, .int (v4 + x9)), (0, .ref (E.ad 60)), (1, .int v1), (3, .int v3)]) hx hb dX11_paceBy_72 hl (k := 4) rfl rfl (by decide) rfl (fun ls hl => ?_)
          refine lv_goto (tgt := 17) hx hb dX11_paceBy_75 (by decide) ?_
          exact ih _ _ _ _ _ hW (lv_sub hl [2, 3, 4, 1, 0] rfl) hf kE
        clear hf
        have hf := h10
        clear h10
        refine lv_icmp_ne (tgt := 68) hx hb dX11_paceBy_35 (by decide) (fun c8 => ?_) (fun c8 => ?_)
        · replace hf := iff_ hf c8
          refine lv_iconst (v := 0) hx hb dX11_paceBy_68 (by decide) ?_
          obtain rfl := so1 hf
          exact J11 _ _ _ hW (lv_sub hl [0, 1, 2, 4] rfl)
        · replace hf := ift_ hf c8
          refine lv_aload_n hx hb dX11_paceBy_38 rfl (lv_at hl 0 rfl) ?_
          refine g_get (ci := 11) (k := 2) (val := .ref (E.ad 63)) C g_us hW rfl rfl rfl (in_sid _ rfl) (by decide) f_RX11_17 rfl dX11_paceBy_39 ?_
          refine lv_bipush (v := 8) hx hb dX11_paceBy_42 (by decide) ?_
          refine lv_iload_n hx hb dX11_paceBy_44 rfl (lv_at hl 1 rfl) ?_
          refine lv_imul hx hb dX11_paceBy_45 ?_
          refine lv_iload hx hb dX11_paceBy_46 (lv_at hl 4 rfl) ?_
          refine lv_iadd hx hb dX11_paceBy_48 ?_
          replace hf := bd_so hf
          obtain ⟨x12, h13, hf⟩ := hf
          refine g_iald C hW h13 dX11_paceBy_49 ?_
          refine lv_aload_n hx hb dX11_paceBy_50 rfl (lv_at hl 0 rfl) ?_
          refine g_get (ci := 11) (k := 2) (val := .ref (E.ad 63)) C g_us hW rfl rfl rfl (in_sid _ rfl) (by decide) f_RX11_17 rfl dX11_paceBy_51 ?_
          refine lv_bipush (v := 8) hx hb dX11_paceBy_54 (by decide) ?_
          refine lv_iload_n hx hb dX11_paceBy_56 rfl (lv_at hl 1 rfl) ?_
          refine lv_iconst (v := 1) hx hb dX11_paceBy_57 (by decide) ?_
          refine lv_isub hx hb dX11_paceBy_58 ?_
          refine lv_imul hx hb dX11_paceBy_59 ?_
          refine lv_iload hx hb dX11_paceBy_60 (lv_at hl 4 rfl) ?_
          refine lv_iadd hx hb dX11_paceBy_62 ?_
          replace hf := bd_so hf
          obtain ⟨x14, h15, hf⟩ := hf
          refine g_iald C hW h15 dX11_paceBy_63 ?_
          refine lv_isub hx hb dX11_paceBy_64 ?_
          refine lv_goto (tgt := 69) hx hb dX11_paceBy_65 (by decide) ?_
          obtain rfl := so1 hf
          exact J11 _ _ _ hW (lv_sub hl [0, 1, 2, 4] rfl)
  unfold X11_paceBy at hf
  refine lv_aload_n hx hb dX11_paceBy_0 rfl (lv_at hl 0 rfl) ?_
  refine lv_iload_n hx hb dX11_paceBy_1 rfl (lv_at hl 1 rfl) ?_
  refine lv_iload_n hx hb dX11_paceBy_2 rfl (lv_at hl 2 rfl) ?_
  replace hf := bd_so hf
  obtain ⟨S2, h1, hf⟩ := hf
  refine g_callVv (ci := 11) (As := [.int a1, .int a2]) (rest := []) C g_us hW hl.1 (c_X11_laysBeats l E S a1 a2 _ h1) rfl rfl rfl (in_sid _ rfl) k_RX11_122 rfl ⟨rfl, rfl⟩ ⟨Nat.le_of_ble_eq_true rfl, Nat.le_of_ble_eq_true rfl⟩ ⟨Nat.zero_le _, Nat.zero_le _⟩ _ rfl (Nat.le_of_ble_eq_true rfl) dX11_paceBy_3 (fun H locs hW => ?_)
  refine lv_aload_n hx hb dX11_paceBy_6 rfl (lv_at hl 0 rfl) ?_
  replace hf := bd_so hf
  obtain ⟨x4, h3, hf⟩ := hf
  refine g_callVi (ci := 11) (As := []) (rest := []) C g_us hW hl.1 (c_X11_singers l E S2  _ h3) rfl rfl rfl (in_sid _ rfl) k_RX11_126 rfl ⟨rfl, rfl⟩ ⟨Nat.le_of_ble_eq_true rfl, Nat.le_of_ble_eq_true rfl⟩ ⟨Nat.zero_le _, Nat.zero_le _⟩ _ rfl (Nat.le_of_ble_eq_true rfl) dX11_paceBy_7 (fun H locs hW => ?_)
  refine lv_istore_n (lv' := [(3, .int x4), (0, .ref (E.ad 60)), (1, .int a1), (2, .int a2)]) hx hb dX11_paceBy_10 rfl hl (by decide) rfl (fun ls hl => ?_)
  refine lv_iconst (v := 0) hx hb dX11_paceBy_11 (by decide) ?_
  refine lv_istore (lv' := [(4, .int 0), (3, .int x4), (0, .ref (E.ad 60)), (1, .int a1), (2, .int a2)]) hx hb dX11_paceBy_12 hl (by decide) rfl (fun ls hl => ?_)
  refine lv_iconst (v := 0) hx hb dX11_paceBy_14 (by decide) ?_
  refine lv_istore (lv' := [(5, .int 0), (4, .int 0), (3, .int x4), (0, .ref (E.ad 60)), (1, .int a1), (2, .int a2)]) hx hb dX11_paceBy_15 hl (by decide) rfl (fun ls hl => ?_)
  replace hf := bd_so hf
  obtain ⟨x16, h17, hf⟩ := hf
  have J22 : ∀ (H : Heap) (locs : List Loc) (ls : Array Slot), Ww E S2 s H locs → lv_has ls 6 [(3, .int x4), (4, .int x16)] → W p l e rm_X11_paceBy s m args below meth c H locs 0 0 Q (F0 m 78 ls []) := by
    intro H locs ls hW hl
    refine lv_iload hx hb dX11_paceBy_78 (lv_at hl 1 rfl) ?_
    refine lv_iload_n hx hb dX11_paceBy_80 rfl (lv_at hl 0 rfl) ?_
    replace hf := bd_so hf
    obtain ⟨x19, h18, hf⟩ := hf
    refine g_callSi (As := [.int x4]) (rest := [.int x16]) C g_us hW hl.1 (c_X11_size l E S2 x4 _ h18) k_RX11_129 rfl ⟨rfl, rfl⟩ ⟨Nat.le_of_ble_eq_true rfl, Nat.le_of_ble_eq_true rfl⟩ ⟨Nat.zero_le _, Nat.zero_le _⟩ _ rfl (Nat.le_of_ble_eq_true rfl) dX11_paceBy_81 (fun H locs hW => ?_)
    replace hf := bd_so hf
    obtain ⟨x20, h21, hf⟩ := hf
    refine g_idiv C h21 dX11_paceBy_84 ?_
    obtain ⟨rfl, rfl⟩ := so2 hf
    exact kR _ _ _ _ hW dX11_paceBy_85
  exact X11_paceBy_L17_c _ _ _ _ FU _ _ _ _ _ hW (lv_sub hl [3, 4, 2, 1, 0] rfl) h17 (fun _ H locs ls e hW hl => by cases e; exact J22 H locs ls hW hl)

abbrev rm_X11_paceAt : Room := { frames := 6, cells := 0, slots := 0, locals := 184 }
set_option maxHeartbeats 4000000 in
set_option maxRecDepth 100000 in
theorem c_X11_paceAt (l : Launch) (E : En) (S : St) (a1 : Int32) (r : Int32) (S1 : St) (hf : X11_paceAt S a1 = some (r, S1)) : Mi l E yX11_paceAt cX11_paceAt 2 (some .int) rm_X11_paceAt [.ref (E.ad 60), .int a1] S r S1 := by
  refine g_startI (cc := cX11_paceAt) (n := 2) (by decide) (Nat.le_of_ble_eq_true rfl) ?_
  intro p e s m args below meth c Q H locs C kR hW ls hl
  obtain ⟨⟨hx, hb, hml, hown, hts⟩, hK, hT⟩ := id C
  have hl : lv_has ls 2 [(0, .ref (E.ad 60)), (1, .int a1)] := hl
  unfold X11_paceAt at hf
  refine lv_iload_n hx hb dX11_paceAt_0 rfl (lv_at hl 1 rfl) ?_
  refine lv_i2l (v := (a1 : Int32).toInt64) hx hb dX11_paceAt_1 rfl ?_
  refine lv_lconst (v := 1) hx hb dX11_paceAt_2 (by decide) ?_
  refine lv_ldc2 hx hb hown (hts _ (g_us _ q_RX11_118)) dX11_paceAt_3 ?_
  replace hf := bd_so hf
  obtain ⟨x2, h1, hf⟩ := hf
  refine g_callSi (As := [.long ((a1 : Int32).toInt64), .long 1, .long 40]) (rest := []) C g_us hW hl.1 (c_X11_in l E S ((a1 : Int32).toInt64) 1 40 _ h1) k_RX11_72 rfl ⟨rfl, rfl⟩ ⟨Nat.le_of_ble_eq_true rfl, Nat.le_of_ble_eq_true rfl⟩ ⟨Nat.zero_le _, Nat.zero_le _⟩ _ rfl (Nat.le_of_ble_eq_true rfl) dX11_paceAt_6 (fun H locs hW => ?_)
  refine lv_if_ne (tgt := 14) hx hb dX11_paceAt_9 (by decide) (fun c3 => ?_) (fun c3 => ?_)
  · replace hf := iff_ hf c3
    refine lv_aload_n hx hb dX11_paceAt_14 rfl (lv_at hl 0 rfl) ?_
    replace hf := bd_so hf
    obtain ⟨x5, h4, hf⟩ := hf
    refine g_callVi (ci := 11) (As := []) (rest := []) C g_us hW hl.1 (c_X11_singers l E S  _ h4) rfl rfl rfl (in_sid _ rfl) k_RX11_126 rfl ⟨rfl, rfl⟩ ⟨Nat.le_of_ble_eq_true rfl, Nat.le_of_ble_eq_true rfl⟩ ⟨Nat.zero_le _, Nat.zero_le _⟩ _ rfl (Nat.le_of_ble_eq_true rfl) dX11_paceAt_15 (fun H locs hW => ?_)
    refine lv_if_ne (tgt := 26) hx hb dX11_paceAt_18 (by decide) (fun c6 => ?_) (fun c6 => ?_)
    · replace hf := iff_ hf c6
      refine lv_aload_n hx hb dX11_paceAt_26 rfl (lv_at hl 0 rfl) ?_
      refine lv_iload_n hx hb dX11_paceAt_27 rfl (lv_at hl 1 rfl) ?_
      refine lv_iconst (v := 0) hx hb dX11_paceAt_28 (by decide) ?_
      replace hf := bd_so hf
      obtain ⟨⟨x8, S9⟩, h7, hf⟩ := hf
      dsimp only at hf
      refine g_callVi (ci := 11) (As := [.int a1, .int 0]) (rest := []) C g_us hW hl.1 (c_X11_paceBy l E S a1 0 _ _ h7) rfl rfl rfl (in_sid _ rfl) k_RX11_132 rfl ⟨rfl, rfl⟩ ⟨Nat.le_of_ble_eq_true rfl, Nat.le_of_ble_eq_true rfl⟩ ⟨Nat.zero_le _, Nat.zero_le _⟩ _ rfl (Nat.le_of_ble_eq_true rfl) dX11_paceAt_29 (fun H locs hW => ?_)
      obtain ⟨rfl, rfl⟩ := so2 hf
      exact kR _ _ _ _ hW dX11_paceAt_32
    · replace hf := ift_ hf c6
      refine lv_bipush (v := (-4)) hx hb dX11_paceAt_21 (by decide) ?_
      refine lv_goto (tgt := 32) hx hb dX11_paceAt_23 (by decide) ?_
      obtain ⟨rfl, rfl⟩ := so2 hf
      exact kR _ _ _ _ hW dX11_paceAt_32
  · replace hf := ift_ hf c3
    refine lv_iconst (v := (-1)) hx hb dX11_paceAt_12 (by decide) ?_
    obtain ⟨rfl, rfl⟩ := so2 hf
    exact kR _ _ _ _ hW dX11_paceAt_13

abbrev rm_X11_slows : Room := { frames := 6, cells := 0, slots := 0, locals := 184 }
set_option maxHeartbeats 4000000 in
set_option maxRecDepth 100000 in
theorem c_X11_slows (l : Launch) (E : En) (S : St) (a1 : Int32) (a2 : Int32) (r : Int32) (S1 : St) (hf : X11_slows S a1 a2 = some (r, S1)) : Mi l E yX11_slows cX11_slows 4 (some .int) rm_X11_slows [.ref (E.ad 60), .int a1, .int a2] S r S1 := by
  refine g_startI (cc := cX11_slows) (n := 4) (by decide) (Nat.le_of_ble_eq_true rfl) ?_
  intro p e s m args below meth c Q H locs C kR hW ls hl
  obtain ⟨⟨hx, hb, hml, hown, hts⟩, hK, hT⟩ := id C
  have hl : lv_has ls 4 [(0, .ref (E.ad 60)), (1, .int a1), (2, .int a2)] := hl
  have X11_slows_L28_c : ∀ (v1 : Int32) (v2 : Int32) (res : (St) ⊕ (Int32 × St)) (n : Nat) (v3 : Int32) (S : St) (H : Heap) (locs : List Loc) (ls : Array Slot), Ww E S s H locs → lv_has ls 4 [(0, .ref (E.ad 60)), (1, .int v1), (2, .int v2), (3, .int v3)] → X11_slows_L28 v1 v2 n v3 S = some res → (∀ (T : St) (H : Heap) (locs : List Loc) (ls : Array Slot), some (.inl T) = some res → Ww E T s H locs → lv_has ls 4 [] → W p l e rm_X11_slows s m args below meth c H locs 0 0 Q (F0 m 60 ls [])) → (∀ (r0 : Int32) (T : St) (H : Heap) (locs : List Loc) (pc : Nat) (ls : Array Slot), some (.inr (r0, T)) = some res → Ww E T s H locs → decode cX11_slows pc = .ok (.ireturn, 1) → W p l e rm_X11_slows s m args below meth c H locs 0 0 Q (F0 m pc ls [.int r0])) → W p l e rm_X11_slows s m args below meth c H locs 0 0 Q (F0 m 28 ls []) := by
    intro v1 v2 res n
    induction n with
    | zero =>
      intro v3 S H locs ls hW hl hf
      cases hf
    | succ n ih =>
      intro v3 S H locs ls hW hl hf kE kR
      unfold X11_slows_L28 at hf
      refine lv_iload_n hx hb dX11_slows_28 rfl (lv_at hl 3 rfl) ?_
      refine lv_sipush (v := 400) hx hb dX11_slows_29 (by decide) ?_
      refine lv_icmp_gt (tgt := 60) hx hb dX11_slows_32 (by decide) (fun c7 => ?_) (fun c7 => ?_)
      · replace hf := ift_ hf c7
        exact kE _ _ _ _ hf hW (lv_sub hl [] rfl)
      · replace hf := iff_ hf c7
        refine lv_aload_n hx hb dX11_slows_35 rfl (lv_at hl 0 rfl) ?_
        replace hf := bd_so hf
        obtain ⟨x9, h8, hf⟩ := hf
        refine g_callVi (ci := 11) (As := []) (rest := []) C g_us hW hl.1 (c_X11_singers l E S  _ h8) rfl rfl rfl (in_sid _ rfl) k_RX11_126 rfl ⟨rfl, rfl⟩ ⟨Nat.le_of_ble_eq_true rfl, Nat.le_of_ble_eq_true rfl⟩ ⟨Nat.zero_le _, Nat.zero_le _⟩ _ rfl (Nat.le_of_ble_eq_true rfl) dX11_slows_36 (fun H locs hW => ?_)
        refine lv_if_le (tgt := 60) hx hb dX11_slows_39 (by decide) (fun c10 => ?_) (fun c10 => ?_)
        · replace hf := ift_ hf c10
          exact kE _ _ _ _ hf hW (lv_sub hl [] rfl)
        · replace hf := iff_ hf c10
          refine lv_aload_n hx hb dX11_slows_42 rfl (lv_at hl 0 rfl) ?_
          refine lv_iload_n hx hb dX11_slows_43 rfl (lv_at hl 1 rfl) ?_
          refine lv_iload_n hx hb dX11_slows_44 rfl (lv_at hl 3 rfl) ?_
          replace hf := bd_so hf
          obtain ⟨⟨x12, S13⟩, h11, hf⟩ := hf
          dsimp only at hf
          refine g_callVi (ci := 11) (As := [.int v1, .int v3]) (rest := []) C g_us hW hl.1 (c_X11_paceBy l E S v1 v3 _ _ h11) rfl rfl rfl (in_sid _ rfl) k_RX11_132 rfl ⟨rfl, rfl⟩ ⟨Nat.le_of_ble_eq_true rfl, Nat.le_of_ble_eq_true rfl⟩ ⟨Nat.zero_le _, Nat.zero_le _⟩ _ rfl (Nat.le_of_ble_eq_true rfl) dX11_slows_45 (fun H locs hW => ?_)
          refine lv_iload_n hx hb dX11_slows_48 rfl (lv_at hl 2 rfl) ?_
          refine lv_icmp_le (tgt := 54) hx hb dX11_slows_49 (by decide) (fun c14 => ?_) (fun c14 => ?_)
          · replace hf := ift_ hf c14
            refine lv_iinc (v := (v3 + 1)) (lv' := [(3, .int (v3 + 1)), (0, .ref (E.ad 60)), (1, .int v1), (2, .int v2)]) hx hb dX11_slows_54 hl (k := 3) rfl rfl (by decide) rfl (fun ls hl => ?_)
            refine lv_goto (tgt := 28) hx hb dX11_slows_57 (by decide) ?_
            exact ih _ _ _ _ _ hW (lv_sub hl [1, 2, 3, 0] rfl) hf kE kR
          · replace hf := iff_ hf c14
            refine lv_iload_n hx hb dX11_slows_52 rfl (lv_at hl 3 rfl) ?_
            exact kR _ _ _ _ _ _ hf hW dX11_slows_53
  unfold X11_slows at hf
  refine lv_iload_n hx hb dX11_slows_0 rfl (lv_at hl 1 rfl) ?_
  refine lv_i2l (v := (a1 : Int32).toInt64) hx hb dX11_slows_1 rfl ?_
  refine lv_lconst (v := 1) hx hb dX11_slows_2 (by decide) ?_
  refine lv_ldc2 hx hb hown (hts _ (g_us _ q_RX11_118)) dX11_slows_3 ?_
  replace hf := bd_so hf
  obtain ⟨x2, h1, hf⟩ := hf
  refine g_callSi (As := [.long ((a1 : Int32).toInt64), .long 1, .long 40]) (rest := []) C g_us hW hl.1 (c_X11_in l E S ((a1 : Int32).toInt64) 1 40 _ h1) k_RX11_72 rfl ⟨rfl, rfl⟩ ⟨Nat.le_of_ble_eq_true rfl, Nat.le_of_ble_eq_true rfl⟩ ⟨Nat.zero_le _, Nat.zero_le _⟩ _ rfl (Nat.le_of_ble_eq_true rfl) dX11_slows_6 (fun H locs hW => ?_)
  refine lv_if_eq (tgt := 24) hx hb dX11_slows_9 (by decide) (fun c3 => ?_) (fun c3 => ?_)
  · replace hf := ift_ hf c3
    refine lv_iconst (v := (-1)) hx hb dX11_slows_24 (by decide) ?_
    obtain ⟨rfl, rfl⟩ := so2 hf
    exact kR _ _ _ _ hW dX11_slows_25
  · replace hf := iff_ hf c3
    refine lv_iload_n hx hb dX11_slows_12 rfl (lv_at hl 2 rfl) ?_
    refine lv_i2l (v := (a2 : Int32).toInt64) hx hb dX11_slows_13 rfl ?_
    refine lv_lconst (v := 0) hx hb dX11_slows_14 (by decide) ?_
    refine lv_ldc2 hx hb hown (hts _ (g_us _ q_RX11_135)) dX11_slows_15 ?_
    replace hf := bd_so hf
    obtain ⟨x5, h4, hf⟩ := hf
    refine g_callSi (As := [.long ((a2 : Int32).toInt64), .long 0, .long 99999]) (rest := []) C g_us hW hl.1 (c_X11_in l E S ((a2 : Int32).toInt64) 0 99999 _ h4) k_RX11_72 rfl ⟨rfl, rfl⟩ ⟨Nat.le_of_ble_eq_true rfl, Nat.le_of_ble_eq_true rfl⟩ ⟨Nat.zero_le _, Nat.zero_le _⟩ _ rfl (Nat.le_of_ble_eq_true rfl) dX11_slows_18 (fun H locs hW => ?_)
    refine lv_if_ne (tgt := 26) hx hb dX11_slows_21 (by decide) (fun c6 => ?_) (fun c6 => ?_)
    · replace hf := iff_ hf c6
      refine lv_iconst (v := 1) hx hb dX11_slows_26 (by decide) ?_
      refine lv_istore_n (lv' := [(3, .int 1), (0, .ref (E.ad 60)), (1, .int a1), (2, .int a2)]) hx hb dX11_slows_27 rfl hl (by decide) rfl (fun ls hl => ?_)
      replace hf := bd_so hf
      obtain ⟨t, h16, hf⟩ := hf
      rcases t with S15 | ⟨x18, S19⟩
      · dsimp only at hf
        have J17 : ∀ (H : Heap) (locs : List Loc) (ls : Array Slot), Ww E S15 s H locs → lv_has ls 4 [] → W p l e rm_X11_slows s m args below meth c H locs 0 0 Q (F0 m 60 ls []) := by
          intro H locs ls hW hl
          refine lv_bipush (v := (-4)) hx hb dX11_slows_60 (by decide) ?_
          obtain ⟨rfl, rfl⟩ := so2 hf
          exact kR _ _ _ _ hW dX11_slows_62
        exact X11_slows_L28_c _ _ _ FU _ _ _ _ _ hW (lv_sub hl [1, 2, 3, 0] rfl) h16 (fun _ H locs ls e hW hl => by cases e; exact J17 H locs ls hW hl) (fun _ _ H locs pc ls e hW dd => by cases e)
      · dsimp only at hf
        refine X11_slows_L28_c _ _ _ FU _ _ _ _ _ hW (lv_sub hl [1, 2, 3, 0] rfl) h16 (fun _ H locs ls e hW hl => by cases e) (fun _ _ H locs pc ls e hW dd => ?_)
        cases e
        obtain ⟨rfl, rfl⟩ := so2 hf
        exact kR _ _ _ _ hW dd
    · replace hf := ift_ hf c6
      refine lv_iconst (v := (-1)) hx hb dX11_slows_24 (by decide) ?_
      obtain ⟨rfl, rfl⟩ := so2 hf
      exact kR _ _ _ _ hW dX11_slows_25

abbrev rm_X11_apart : Room := { frames := 5, cells := 0, slots := 0, locals := 159 }
set_option maxHeartbeats 4000000 in
set_option maxRecDepth 100000 in
theorem c_X11_apart (l : Launch) (E : En) (S : St) (a1 : Int32) (r : Int32) (S1 : St) (hf : X11_apart S a1 = some (r, S1)) : Mi l E yX11_apart cX11_apart 8 (some .int) rm_X11_apart [.ref (E.ad 60), .int a1] S r S1 := by
  refine g_startI (cc := cX11_apart) (n := 8) (by decide) (Nat.le_of_ble_eq_true rfl) ?_
  intro p e s m args below meth c Q H locs C kR hW ls hl
  obtain ⟨⟨hx, hb, hml, hown, hts⟩, hK, hT⟩ := id C
  have hl : lv_has ls 8 [(0, .ref (E.ad 60)), (1, .int a1)] := hl
  have X11_apart_L43_c : ∀ (S : St) (v1 : Int32) (v2 : Int32) (res : Int32 × Int32) (n : Nat) (v3 : Int32) (v4 : Int32) (v5 : Int32) (v6 : Int32) (H : Heap) (locs : List Loc) (ls : Array Slot), Ww E S s H locs → lv_has ls 8 [(0, .ref (E.ad 60)), (1, .int v1), (2, .int v2), (3, .int v3), (4, .int v4), (5, .int v5), (6, .int v6)] → X11_apart_L43 S v1 v2 n v3 v4 v5 v6 = some res → (∀ (w4 : Int32) (w5 : Int32) (H : Heap) (locs : List Loc) (ls : Array Slot), some (w4, w5) = some res → Ww E S s H locs → lv_has ls 8 [(4, .int w4), (5, .int w5)] → W p l e rm_X11_apart s m args below meth c H locs 0 0 Q (F0 m 125 ls [])) → W p l e rm_X11_apart s m args below meth c H locs 0 0 Q (F0 m 43 ls []) := by
    intro S v1 v2 res n
    induction n with
    | zero =>
      intro v3 v4 v5 v6 H locs ls hW hl hf
      cases hf
    | succ n ih =>
      intro v3 v4 v5 v6 H locs ls hW hl hf kE
      unfold X11_apart_L43 at hf
      refine lv_iload hx hb dX11_apart_43 (lv_at hl 6 rfl) ?_
      refine lv_aload_n hx hb dX11_apart_45 rfl (lv_at hl 0 rfl) ?_
      replace hf := bd_so hf
      obtain ⟨x10, h9, hf⟩ := hf
      refine g_callVi (ci := 11) (As := []) (rest := [.int v6]) C g_us hW hl.1 (c_X11_rooms l E S  _ h9) rfl rfl rfl (in_sid _ rfl) k_RX11_82 rfl ⟨rfl, rfl⟩ ⟨Nat.le_of_ble_eq_true rfl, Nat.le_of_ble_eq_true rfl⟩ ⟨Nat.zero_le _, Nat.zero_le _⟩ _ rfl (Nat.le_of_ble_eq_true rfl) dX11_apart_46 (fun H locs hW => ?_)
      refine lv_icmp_ge (tgt := 125) hx hb dX11_apart_49 (by decide) (fun c11 => ?_) (fun c11 => ?_)
      · replace hf := ift_ hf c11
        exact kE _ _ _ _ _ hf hW (lv_sub hl [4, 5] rfl)
      · replace hf := iff_ hf c11
        refine lv_iload_n hx hb dX11_apart_52 rfl (lv_at hl 2 rfl) ?_
        refine lv_iload hx hb dX11_apart_53 (lv_at hl 6 rfl) ?_
        refine lv_ishr hx hb dX11_apart_55 ?_
        refine lv_iconst (v := 1) hx hb dX11_apart_56 (by decide) ?_
        refine lv_iand hx hb dX11_apart_57 ?_
        refine lv_iconst (v := 1) hx hb dX11_apart_58 (by decide) ?_
        replace hf := bd_so hf
        obtain ⟨⟨x13, x14, x15⟩, h16, hf⟩ := hf
        dsimp only at hf
        have J17 : ∀ (H : Heap) (locs : List Loc) (ls : Array Slot), Ww E S s H locs → lv_has ls 8 [(0, .ref (E.ad 60)), (1, .int v1), (2, .int v2), (3, .int x13), (4, .int x14), (5, .int x15), (6, .int v6)] → W p l e rm_X11_apart s m args below meth c H locs 0 0 Q (F0 m 119 ls []) := by
          intro H locs ls hW hl
          refine lv_iinc (v := (v6 + 1)) (lv' := [(6, .int (v6 + 1)), (0, .ref (E.ad 60)), (1, .int v1), (2, .int v2), (3, .int x13), (4, .int x14), (5, .int x15)]) hx hb dX11_apart_119 hl (k := 6) rfl rfl (by decide) rfl (fun ls hl => ?_)
          refine lv_goto (tgt := 43) hx hb dX11_apart_122 (by decide) ?_
          exact ih _ _ _ _ _ _ _ hW (lv_sub hl [1, 2, 3, 4, 5, 6, 0] rfl) hf kE
        clear hf
        have hf := h16
        clear h16
        refine lv_icmp_ne (tgt := 119) hx hb dX11_apart_59 (by decide) (fun c12 => ?_) (fun c12 => ?_)
        · replace hf := iff_ hf c12
          obtain ⟨rfl, rfl, rfl⟩ := so3 hf
          exact J17 _ _ _ hW (lv_sub hl [0, 1, 2, 3, 4, 5, 6] rfl)
        · replace hf := ift_ hf c12
          refine lv_aload_n hx hb dX11_apart_62 rfl (lv_at hl 0 rfl) ?_
          refine g_get (ci := 11) (k := 2) (val := .ref (E.ad 63)) C g_us hW rfl rfl rfl (in_sid _ rfl) (by decide) f_RX11_17 rfl dX11_apart_63 ?_
          refine lv_bipush (v := 8) hx hb dX11_apart_66 (by decide) ?_
          refine lv_iload_n hx hb dX11_apart_68 rfl (lv_at hl 1 rfl) ?_
          refine lv_imul hx hb dX11_apart_69 ?_
          refine lv_iload hx hb dX11_apart_70 (lv_at hl 6 rfl) ?_
          refine lv_iadd hx hb dX11_apart_72 ?_
          replace hf := bd_so hf
          obtain ⟨x18, h19, hf⟩ := hf
          refine g_iald C hW h19 dX11_apart_73 ?_
          refine lv_istore (lv' := [(7, .int x18), (0, .ref (E.ad 60)), (1, .int v1), (2, .int v2), (3, .int v3), (4, .int v4), (5, .int v5), (6, .int v6)]) hx hb dX11_apart_74 hl (by decide) rfl (fun ls hl => ?_)
          refine lv_iload_n hx hb dX11_apart_76 rfl (lv_at hl 4 rfl) ?_
          replace hf := bd_so hf
          obtain ⟨x21, h22, hf⟩ := hf
          have J23 : ∀ (H : Heap) (locs : List Loc) (ls : Array Slot), Ww E S s H locs → lv_has ls 8 [(0, .ref (E.ad 60)), (1, .int v1), (2, .int v2), (3, .int v3), (5, .int v5), (6, .int v6), (7, .int x18)] → W p l e rm_X11_apart s m args below meth c H locs 0 0 Q (F0 m 94 ls [.int x21]) := by
            intro H locs ls hW hl
            refine lv_istore (lv' := [(4, .int x21), (0, .ref (E.ad 60)), (1, .int v1), (2, .int v2), (3, .int v3), (5, .int v5), (6, .int v6), (7, .int x18)]) hx hb dX11_apart_94 hl (by decide) rfl (fun ls hl => ?_)
            refine lv_iload_n hx hb dX11_apart_96 rfl (lv_at hl 4 rfl) ?_
            replace hf := bd_so hf
            obtain ⟨x25, h26, hf⟩ := hf
            have J27 : ∀ (H : Heap) (locs : List Loc) (ls : Array Slot), Ww E S s H locs → lv_has ls 8 [(0, .ref (E.ad 60)), (1, .int v1), (2, .int v2), (3, .int v3), (4, .int x21), (6, .int v6)] → W p l e rm_X11_apart s m args below meth c H locs 0 0 Q (F0 m 114 ls [.int x25]) := by
              intro H locs ls hW hl
              refine lv_istore (lv' := [(5, .int x25), (0, .ref (E.ad 60)), (1, .int v1), (2, .int v2), (3, .int v3), (4, .int x21), (6, .int v6)]) hx hb dX11_apart_114 hl (by decide) rfl (fun ls hl => ?_)
              refine lv_iinc (v := (v3 + 1)) (lv' := [(3, .int (v3 + 1)), (5, .int x25), (0, .ref (E.ad 60)), (1, .int v1), (2, .int v2), (4, .int x21), (6, .int v6)]) hx hb dX11_apart_116 hl (k := 4) rfl rfl (by decide) rfl (fun ls hl => ?_)
              obtain ⟨rfl, rfl, rfl⟩ := so3 hf
              exact J17 _ _ _ hW (lv_sub hl [2, 3, 4, 0, 5, 1, 6] rfl)
            clear hf
            have hf := h26
            clear h26
            refine lv_if_eq (tgt := 107) hx hb dX11_apart_97 (by decide) (fun c24 => ?_) (fun c24 => ?_)
            · replace hf := ift_ hf c24
              refine lv_iload hx hb dX11_apart_107 (lv_at hl 7 rfl) ?_
              refine lv_goto (tgt := 114) hx hb dX11_apart_109 (by decide) ?_
              obtain rfl := so1 hf
              exact J27 _ _ _ hW (lv_sub hl [1, 2, 3, 4, 0, 6] rfl)
            · replace hf := iff_ hf c24
              refine lv_iload hx hb dX11_apart_100 (lv_at hl 7 rfl) ?_
              refine lv_iload hx hb dX11_apart_102 (lv_at hl 5 rfl) ?_
              refine lv_icmp_le (tgt := 112) hx hb dX11_apart_104 (by decide) (fun c28 => ?_) (fun c28 => ?_)
              · replace hf := ift_ hf c28
                refine lv_iload hx hb dX11_apart_112 (lv_at hl 5 rfl) ?_
                obtain rfl := so1 hf
                exact J27 _ _ _ hW (lv_sub hl [1, 2, 3, 4, 0, 6] rfl)
              · replace hf := iff_ hf c28
                refine lv_iload hx hb dX11_apart_107 (lv_at hl 7 rfl) ?_
                refine lv_goto (tgt := 114) hx hb dX11_apart_109 (by decide) ?_
                obtain rfl := so1 hf
                exact J27 _ _ _ hW (lv_sub hl [1, 2, 3, 4, 0, 6] rfl)
          clear hf
          have hf := h22
          clear h22
          refine lv_if_eq (tgt := 87) hx hb dX11_apart_77 (by decide) (fun c20 => ?_) (fun c20 => ?_)
          · replace hf := ift_ hf c20
            refine lv_iload hx hb dX11_apart_87 (lv_at hl 0 rfl) ?_
            refine lv_goto (tgt := 94) hx hb dX11_apart_89 (by decide) ?_
            obtain rfl := so1 hf
            exact J23 _ _ _ hW (lv_sub hl [1, 2, 3, 4, 6, 7, 0] rfl)
          · replace hf := iff_ hf c20
            refine lv_iload hx hb dX11_apart_80 (lv_at hl 0 rfl) ?_
            refine lv_iload hx hb dX11_apart_82 (lv_at hl 5 rfl) ?_
            refine lv_icmp_ge (tgt := 92) hx hb dX11_apart_84 (by decide) (fun c29 => ?_) (fun c29 => ?_)
            · replace hf := ift_ hf c29
              refine lv_iload hx hb dX11_apart_92 (lv_at hl 5 rfl) ?_
              obtain rfl := so1 hf
              exact J23 _ _ _ hW (lv_sub hl [1, 2, 3, 4, 6, 7, 0] rfl)
            · replace hf := iff_ hf c29
              refine lv_iload hx hb dX11_apart_87 (lv_at hl 0 rfl) ?_
              refine lv_goto (tgt := 94) hx hb dX11_apart_89 (by decide) ?_
              obtain rfl := so1 hf
              exact J23 _ _ _ hW (lv_sub hl [1, 2, 3, 4, 6, 7, 0] rfl)
  unfold X11_apart at hf
  refine lv_iload_n hx hb dX11_apart_0 rfl (lv_at hl 1 rfl) ?_
  refine lv_i2l (v := (a1 : Int32).toInt64) hx hb dX11_apart_1 rfl ?_
  refine lv_lconst (v := 0) hx hb dX11_apart_2 (by decide) ?_
  refine lv_ldc2 hx hb hown (hts _ (g_us _ q_RX11_118)) dX11_apart_3 ?_
  replace hf := bd_so hf
  obtain ⟨x2, h1, hf⟩ := hf
  refine g_callSi (As := [.long ((a1 : Int32).toInt64), .long 0, .long 40]) (rest := []) C g_us hW hl.1 (c_X11_in l E S ((a1 : Int32).toInt64) 0 40 _ h1) k_RX11_72 rfl ⟨rfl, rfl⟩ ⟨Nat.le_of_ble_eq_true rfl, Nat.le_of_ble_eq_true rfl⟩ ⟨Nat.zero_le _, Nat.zero_le _⟩ _ rfl (Nat.le_of_ble_eq_true rfl) dX11_apart_6 (fun H locs hW => ?_)
  refine lv_if_ne (tgt := 14) hx hb dX11_apart_9 (by decide) (fun c3 => ?_) (fun c3 => ?_)
  · replace hf := iff_ hf c3
    refine lv_aload_n hx hb dX11_apart_14 rfl (lv_at hl 0 rfl) ?_
    replace hf := bd_so hf
    obtain ⟨x5, h4, hf⟩ := hf
    refine g_callVi (ci := 11) (As := []) (rest := []) C g_us hW hl.1 (c_X11_singers l E S  _ h4) rfl rfl rfl (in_sid _ rfl) k_RX11_126 rfl ⟨rfl, rfl⟩ ⟨Nat.le_of_ble_eq_true rfl, Nat.le_of_ble_eq_true rfl⟩ ⟨Nat.zero_le _, Nat.zero_le _⟩ _ rfl (Nat.le_of_ble_eq_true rfl) dX11_apart_15 (fun H locs hW => ?_)
    refine lv_istore_n (lv' := [(2, .int x5), (0, .ref (E.ad 60)), (1, .int a1)]) hx hb dX11_apart_18 rfl hl (by decide) rfl (fun ls hl => ?_)
    refine lv_iload_n hx hb dX11_apart_19 rfl (lv_at hl 0 rfl) ?_
    refine lv_if_ne (tgt := 26) hx hb dX11_apart_20 (by decide) (fun c6 => ?_) (fun c6 => ?_)
    · replace hf := iff_ hf c6
      refine lv_aload_n hx hb dX11_apart_26 rfl (lv_at hl 1 rfl) ?_
      refine lv_iload_n hx hb dX11_apart_27 rfl (lv_at hl 2 rfl) ?_
      refine lv_iconst (v := 0) hx hb dX11_apart_28 (by decide) ?_
      replace hf := bd_so hf
      obtain ⟨S8, h7, hf⟩ := hf
      refine g_callVv (ci := 11) (As := [.int a1, .int 0]) (rest := []) C g_us hW hl.1 (c_X11_laysBeats l E S a1 0 _ h7) rfl rfl rfl (in_sid _ rfl) k_RX11_122 rfl ⟨rfl, rfl⟩ ⟨Nat.le_of_ble_eq_true rfl, Nat.le_of_ble_eq_true rfl⟩ ⟨Nat.zero_le _, Nat.zero_le _⟩ _ rfl (Nat.le_of_ble_eq_true rfl) dX11_apart_29 (fun H locs hW => ?_)
      refine lv_iconst (v := 0) hx hb dX11_apart_32 (by decide) ?_
      refine lv_istore_n (lv' := [(3, .int 0), (2, .int x5), (0, .ref (E.ad 60)), (1, .int a1)]) hx hb dX11_apart_33 rfl hl (by decide) rfl (fun ls hl => ?_)
      refine lv_iconst (v := 0) hx hb dX11_apart_34 (by decide) ?_
      refine lv_istore (lv' := [(4, .int 0), (3, .int 0), (2, .int x5), (0, .ref (E.ad 60)), (1, .int a1)]) hx hb dX11_apart_35 hl (by decide) rfl (fun ls hl => ?_)
      refine lv_iconst (v := 0) hx hb dX11_apart_37 (by decide) ?_
      refine lv_istore (lv' := [(5, .int 0), (4, .int 0), (3, .int 0), (2, .int x5), (0, .ref (E.ad 60)), (1, .int a1)]) hx hb dX11_apart_38 hl (by decide) rfl (fun ls hl => ?_)
      refine lv_iconst (v := 0) hx hb dX11_apart_40 (by decide) ?_
      refine lv_istore (lv' := [(6, .int 0), (5, .int 0), (4, .int 0), (3, .int 0), (2, .int x5), (0, .ref (E.ad 60)), (1, .int a1)]) hx hb dX11_apart_41 hl (by decide) rfl (fun ls hl => ?_)
      replace hf := bd_so hf
      obtain ⟨⟨x30, x31⟩, h32, hf⟩ := hf
      dsimp only at hf
      have J33 : ∀ (H : Heap) (locs : List Loc) (ls : Array Slot), Ww E S8 s H locs → lv_has ls 8 [(4, .int x30), (5, .int x31)] → W p l e rm_X11_apart s m args below meth c H locs 0 0 Q (F0 m 125 ls []) := by
        intro H locs ls hW hl
        refine lv_iload hx hb dX11_apart_125 (lv_at hl 1 rfl) ?_
        refine lv_iload hx hb dX11_apart_127 (lv_at hl 0 rfl) ?_
        refine lv_isub hx hb dX11_apart_129 ?_
        obtain ⟨rfl, rfl⟩ := so2 hf
        exact kR _ _ _ _ hW dX11_apart_130
      exact X11_apart_L43_c _ _ _ _ FU _ _ _ _ _ _ _ hW (lv_sub hl [5, 6, 4, 3, 2, 1, 0] rfl) h32 (fun _ _ H locs ls e hW hl => by cases e; exact J33 H locs ls hW hl)
    · replace hf := ift_ hf c6
      refine lv_bipush (v := (-4)) hx hb dX11_apart_23 (by decide) ?_
      obtain ⟨rfl, rfl⟩ := so2 hf
      exact kR _ _ _ _ hW dX11_apart_25
  · replace hf := ift_ hf c3
    refine lv_iconst (v := (-1)) hx hb dX11_apart_12 (by decide) ?_
    obtain ⟨rfl, rfl⟩ := so2 hf
    exact kR _ _ _ _ hW dX11_apart_13

abbrev rm_X11_count : Room := { frames := 4, cells := 0, slots := 0, locals := 125 }
set_option maxHeartbeats 4000000 in
set_option maxRecDepth 100000 in
theorem c_X11_count (l : Launch) (E : En) (S : St) (a1 : Int32) (r : Int32) (hf : X11_count S a1 = some r) : Mi l E yX11_count cX11_count 5 (some .int) rm_X11_count [.ref (E.ad 60), .int a1] S r S := by
  refine g_startI (cc := cX11_count) (n := 5) (by decide) (Nat.le_of_ble_eq_true rfl) ?_
  intro p e s m args below meth c Q H locs C kR hW ls hl
  obtain ⟨⟨hx, hb, hml, hown, hts⟩, hK, hT⟩ := id C
  have hl : lv_has ls 5 [(0, .ref (E.ad 60)), (1, .int a1)] := hl
  have X11_count_L5_c : ∀ (S : St) (v1 : Int32) (res : Int32) (n : Nat) (v2 : Int32) (v3 : Int32) (H : Heap) (locs : List Loc) (ls : Array Slot), Ww E S s H locs → lv_has ls 5 [(0, .ref (E.ad 60)), (1, .int v1), (2, .int v2), (3, .int v3)] → X11_count_L5 S v1 n v2 v3 = some res → (∀ (w2 : Int32) (H : Heap) (locs : List Loc) (ls : Array Slot), some w2 = some res → Ww E S s H locs → lv_has ls 5 [(0, .ref (E.ad 60)), (1, .int v1), (2, .int w2)] → W p l e rm_X11_count s m args below meth c H locs 0 0 Q (F0 m 35 ls [])) → W p l e rm_X11_count s m args below meth c H locs 0 0 Q (F0 m 5 ls []) := by
    intro S v1 res n
    induction n with
    | zero =>
      intro v2 v3 H locs ls hW hl hf
      cases hf
    | succ n ih =>
      intro v2 v3 H locs ls hW hl hf kE
      unfold X11_count_L5 at hf
      refine lv_iload_n hx hb dX11_count_5 rfl (lv_at hl 3 rfl) ?_
      refine lv_sipush (v := 128) hx hb dX11_count_6 (by decide) ?_
      refine lv_icmp_ge (tgt := 35) hx hb dX11_count_9 (by decide) (fun c1 => ?_) (fun c1 => ?_)
      · replace hf := ift_ hf c1
        exact kE _ _ _ _ hf hW (lv_sub hl [0, 1, 2] rfl)
      · replace hf := iff_ hf c1
        refine lv_iload_n hx hb dX11_count_12 rfl (lv_at hl 2 rfl) ?_
        refine lv_aload_n hx hb dX11_count_13 rfl (lv_at hl 0 rfl) ?_
        refine g_get (ci := 11) (k := 0) (val := .ref (E.ad 61)) C g_us hW rfl rfl rfl (in_sid _ rfl) (by decide) f_RX11_7 rfl dX11_count_14 ?_
        refine lv_iload_n hx hb dX11_count_17 rfl (lv_at hl 3 rfl) ?_
        replace hf := bd_so hf
        obtain ⟨x2, h3, hf⟩ := hf
        refine g_iald C hW h3 dX11_count_18 ?_
        replace hf := bd_so hf
        obtain ⟨x5, h6, hf⟩ := hf
        have J7 : ∀ (H : Heap) (locs : List Loc) (ls : Array Slot), Ww E S s H locs → lv_has ls 5 [(0, .ref (E.ad 60)), (1, .int v1), (3, .int v3)] → W p l e rm_X11_count s m args below meth c H locs 0 0 Q (F0 m 27 ls [.int x5, .int v2]) := by
          intro H locs ls hW hl
          refine lv_iadd hx hb dX11_count_27 ?_
          refine lv_istore_n (lv' := [(2, .int (v2 + x5)), (0, .ref (E.ad 60)), (1, .int v1), (3, .int v3)]) hx hb dX11_count_28 rfl hl (by decide) rfl (fun ls hl => ?_)
          refine lv_iinc (v := (v3 + 1)) (lv' := [(3, .int (v3 + 1)), (2, .int (v2 + x5)), (0, .ref (E.ad 60)), (1, .int v1)]) hx hb dX11_count_29 hl (k := 3) rfl rfl (by decide) rfl (fun ls hl => ?_)
          refine lv_goto (tgt := 5) hx hb dX11_count_32 (by decide) ?_
          exact ih _ _ _ _ _ hW (lv_sub hl [2, 3, 1, 0] rfl) hf kE
        clear hf
        have hf := h6
        clear h6
        refine lv_if_le (tgt := 26) hx hb dX11_count_19 (by decide) (fun c4 => ?_) (fun c4 => ?_)
        · replace hf := ift_ hf c4
          refine lv_iconst (v := 0) hx hb dX11_count_26 (by decide) ?_
          obtain rfl := so1 hf
          exact J7 _ _ _ hW (lv_sub hl [0, 1, 3] rfl)
        · replace hf := iff_ hf c4
          refine lv_iconst (v := 1) hx hb dX11_count_22 (by decide) ?_
          refine lv_goto (tgt := 27) hx hb dX11_count_23 (by decide) ?_
          obtain rfl := so1 hf
          exact J7 _ _ _ hW (lv_sub hl [0, 1, 3] rfl)
  have X11_count_L40_c : ∀ (S : St) (v1 : Int32) (v2 : Int32) (res : Int32) (n : Nat) (v3 : Int32) (v4 : Int32) (H : Heap) (locs : List Loc) (ls : Array Slot), Ww E S s H locs → lv_has ls 5 [(0, .ref (E.ad 60)), (1, .int v1), (2, .int v2), (3, .int v3), (4, .int v4)] → X11_count_L40 S v1 v2 n v3 v4 = some res → (∀ (w3 : Int32) (H : Heap) (locs : List Loc) (ls : Array Slot), some w3 = some res → Ww E S s H locs → lv_has ls 5 [(0, .ref (E.ad 60)), (1, .int v1), (2, .int v2), (3, .int w3)] → W p l e rm_X11_count s m args below meth c H locs 0 0 Q (F0 m 83 ls [])) → W p l e rm_X11_count s m args below meth c H locs 0 0 Q (F0 m 40 ls []) := by
    intro S v1 v2 res n
    induction n with
    | zero =>
      intro v3 v4 H locs ls hW hl hf
      cases hf
    | succ n ih =>
      intro v3 v4 H locs ls hW hl hf kE
      unfold X11_count_L40 at hf
      refine lv_iload hx hb dX11_count_40 (lv_at hl 4 rfl) ?_
      refine lv_aload_n hx hb dX11_count_42 rfl (lv_at hl 0 rfl) ?_
      refine g_get (ci := 11) (k := 0) (val := .ref (E.ad 61)) C g_us hW rfl rfl rfl (in_sid _ rfl) (by decide) f_RX11_7 rfl dX11_count_43 ?_
      refine lv_sipush (v := 130) hx hb dX11_count_46 (by decide) ?_
      replace hf := bd_so hf
      obtain ⟨x10, h11, hf⟩ := hf
      refine g_iald C hW h11 dX11_count_49 ?_
      refine lv_icmp_ge (tgt := 83) hx hb dX11_count_50 (by decide) (fun c12 => ?_) (fun c12 => ?_)
      · replace hf := ift_ hf c12
        exact kE _ _ _ _ hf hW (lv_sub hl [0, 1, 2, 3] rfl)
      · replace hf := iff_ hf c12
        refine lv_iload_n hx hb dX11_count_53 rfl (lv_at hl 3 rfl) ?_
        refine lv_aload_n hx hb dX11_count_54 rfl (lv_at hl 0 rfl) ?_
        refine g_get (ci := 11) (k := 0) (val := .ref (E.ad 61)) C g_us hW rfl rfl rfl (in_sid _ rfl) (by decide) f_RX11_7 rfl dX11_count_55 ?_
        refine lv_sipush (v := 136) hx hb dX11_count_58 (by decide) ?_
        refine lv_iload hx hb dX11_count_61 (lv_at hl 4 rfl) ?_
        refine lv_iadd hx hb dX11_count_63 ?_
        replace hf := bd_so hf
        obtain ⟨x13, h14, hf⟩ := hf
        refine g_iald C hW h14 dX11_count_64 ?_
        refine lv_bipush (v := 10) hx hb dX11_count_65 (by decide) ?_
        replace hf := bd_so hf
        obtain ⟨x16, h17, hf⟩ := hf
        have J18 : ∀ (H : Heap) (locs : List Loc) (ls : Array Slot), Ww E S s H locs → lv_has ls 5 [(0, .ref (E.ad 60)), (1, .int v1), (2, .int v2), (4, .int v4)] → W p l e rm_X11_count s m args below meth c H locs 0 0 Q (F0 m 75 ls [.int x16, .int v3]) := by
          intro H locs ls hW hl
          refine lv_iadd hx hb dX11_count_75 ?_
          refine lv_istore_n (lv' := [(3, .int (v3 + x16)), (0, .ref (E.ad 60)), (1, .int v1), (2, .int v2), (4, .int v4)]) hx hb dX11_count_76 rfl hl (by decide) rfl (fun ls hl => ?_)
          refine lv_iinc (v := (v4 + 1)) (lv' := [(4, .int (v4 + 1)), (3, .int (v3 + x16)), (0, .ref (E.ad 60)), (1, .int v1), (2, .int v2)]) hx hb dX11_count_77 hl (k := 4) rfl rfl (by decide) rfl (fun ls hl => ?_)
          refine lv_goto (tgt := 40) hx hb dX11_count_80 (by decide) ?_
          exact ih _ _ _ _ _ hW (lv_sub hl [2, 3, 4, 1, 0] rfl) hf kE
        clear hf
        have hf := h17
        clear h17
        refine lv_icmp_lt (tgt := 74) hx hb dX11_count_67 (by decide) (fun c15 => ?_) (fun c15 => ?_)
        · replace hf := ift_ hf c15
          refine lv_iconst (v := 0) hx hb dX11_count_74 (by decide) ?_
          obtain rfl := so1 hf
          exact J18 _ _ _ hW (lv_sub hl [0, 1, 2, 4] rfl)
        · replace hf := iff_ hf c15
          refine lv_iconst (v := 1) hx hb dX11_count_70 (by decide) ?_
          refine lv_goto (tgt := 75) hx hb dX11_count_71 (by decide) ?_
          obtain rfl := so1 hf
          exact J18 _ _ _ hW (lv_sub hl [0, 1, 2, 4] rfl)
  unfold X11_count at hf
  refine lv_iconst (v := 0) hx hb dX11_count_0 (by decide) ?_
  refine lv_istore_n (lv' := [(2, .int 0), (0, .ref (E.ad 60)), (1, .int a1)]) hx hb dX11_count_1 rfl hl (by decide) rfl (fun ls hl => ?_)
  refine lv_bipush (v := 64) hx hb dX11_count_2 (by decide) ?_
  refine lv_istore_n (lv' := [(3, .int 64), (2, .int 0), (0, .ref (E.ad 60)), (1, .int a1)]) hx hb dX11_count_4 rfl hl (by decide) rfl (fun ls hl => ?_)
  replace hf := bd_so hf
  obtain ⟨x8, h9, hf⟩ := hf
  have J38 : ∀ (H : Heap) (locs : List Loc) (ls : Array Slot), Ww E S s H locs → lv_has ls 5 [(0, .ref (E.ad 60)), (1, .int a1), (2, .int x8)] → W p l e rm_X11_count s m args below meth c H locs 0 0 Q (F0 m 35 ls []) := by
    intro H locs ls hW hl
    refine lv_iconst (v := 0) hx hb dX11_count_35 (by decide) ?_
    refine lv_istore_n (lv' := [(3, .int 0), (0, .ref (E.ad 60)), (1, .int a1), (2, .int x8)]) hx hb dX11_count_36 rfl hl (by decide) rfl (fun ls hl => ?_)
    refine lv_iconst (v := 0) hx hb dX11_count_37 (by decide) ?_
    refine lv_istore (lv' := [(4, .int 0), (3, .int 0), (0, .ref (E.ad 60)), (1, .int a1), (2, .int x8)]) hx hb dX11_count_38 hl (by decide) rfl (fun ls hl => ?_)
    replace hf := bd_so hf
    obtain ⟨x19, h20, hf⟩ := hf
    have J37 : ∀ (H : Heap) (locs : List Loc) (ls : Array Slot), Ww E S s H locs → lv_has ls 5 [(0, .ref (E.ad 60)), (1, .int a1), (2, .int x8), (3, .int x19)] → W p l e rm_X11_count s m args below meth c H locs 0 0 Q (F0 m 83 ls []) := by
      intro H locs ls hW hl
      refine lv_iload_n hx hb dX11_count_83 rfl (lv_at hl 1 rfl) ?_
      by_cases c21 : a1 = 0
      · replace hf := ift_ hf c21
        refine lv_tableIn (tgt := 124) (off := 40) hx hb dX11_count_84 (by rw [c21]; decide) (by rw [c21]; decide) (by rw [c21]; decide) (by decide) ?_
        refine lv_aload_n hx hb dX11_count_124 rfl (lv_at hl 0 rfl) ?_
        replace hf := bd_so hf
        obtain ⟨x23, h22, hf⟩ := hf
        refine g_callVi (ci := 11) (As := []) (rest := []) C g_us hW hl.1 (c_X11_rooms l E S  _ h22) rfl rfl rfl (in_sid _ rfl) k_RX11_82 rfl ⟨rfl, rfl⟩ ⟨Nat.le_of_ble_eq_true rfl, Nat.le_of_ble_eq_true rfl⟩ ⟨Nat.zero_le _, Nat.zero_le _⟩ _ rfl (Nat.le_of_ble_eq_true rfl) dX11_count_125 (fun H locs hW => ?_)
        obtain rfl := so1 hf
        exact kR _ _ _ _ hW dX11_count_128
      replace hf := iff_ hf c21
      by_cases c24 : a1 = 1
      · replace hf := ift_ hf c24
        refine lv_tableIn (tgt := 129) (off := 45) hx hb dX11_count_84 (by rw [c24]; decide) (by rw [c24]; decide) (by rw [c24]; decide) (by decide) ?_
        refine lv_aload_n hx hb dX11_count_129 rfl (lv_at hl 0 rfl) ?_
        replace hf := bd_so hf
        obtain ⟨x26, h25, hf⟩ := hf
        refine g_callVi (ci := 11) (As := []) (rest := []) C g_us hW hl.1 (c_X11_singers l E S  _ h25) rfl rfl rfl (in_sid _ rfl) k_RX11_126 rfl ⟨rfl, rfl⟩ ⟨Nat.le_of_ble_eq_true rfl, Nat.le_of_ble_eq_true rfl⟩ ⟨Nat.zero_le _, Nat.zero_le _⟩ _ rfl (Nat.le_of_ble_eq_true rfl) dX11_count_130 (fun H locs hW => ?_)
        replace hf := bd_so hf
        obtain ⟨x28, h27, hf⟩ := hf
        refine g_callSi (As := [.int x26]) (rest := []) C g_us hW hl.1 (c_X11_size l E S x26 _ h27) k_RX11_129 rfl ⟨rfl, rfl⟩ ⟨Nat.le_of_ble_eq_true rfl, Nat.le_of_ble_eq_true rfl⟩ ⟨Nat.zero_le _, Nat.zero_le _⟩ _ rfl (Nat.le_of_ble_eq_true rfl) dX11_count_133 (fun H locs hW => ?_)
        obtain rfl := so1 hf
        exact kR _ _ _ _ hW dX11_count_136
      replace hf := iff_ hf c24
      by_cases c29 : a1 = 2
      · replace hf := ift_ hf c29
        refine lv_tableIn (tgt := 137) (off := 53) hx hb dX11_count_84 (by rw [c29]; decide) (by rw [c29]; decide) (by rw [c29]; decide) (by decide) ?_
        refine lv_iload_n hx hb dX11_count_137 rfl (lv_at hl 2 rfl) ?_
        obtain rfl := so1 hf
        exact kR _ _ _ _ hW dX11_count_138
      replace hf := iff_ hf c29
      by_cases c30 : a1 = 3
      · replace hf := ift_ hf c30
        refine lv_tableIn (tgt := 139) (off := 55) hx hb dX11_count_84 (by rw [c30]; decide) (by rw [c30]; decide) (by rw [c30]; decide) (by decide) ?_
        refine lv_aload_n hx hb dX11_count_139 rfl (lv_at hl 0 rfl) ?_
        refine g_get (ci := 11) (k := 0) (val := .ref (E.ad 61)) C g_us hW rfl rfl rfl (in_sid _ rfl) (by decide) f_RX11_7 rfl dX11_count_140 ?_
        refine lv_sipush (v := 130) hx hb dX11_count_143 (by decide) ?_
        replace hf := bd_so hf
        obtain ⟨x31, h32, hf⟩ := hf
        refine g_iald C hW h32 dX11_count_146 ?_
        obtain rfl := so1 hf
        exact kR _ _ _ _ hW dX11_count_147
      replace hf := iff_ hf c30
      by_cases c33 : a1 = 4
      · replace hf := ift_ hf c33
        refine lv_tableIn (tgt := 148) (off := 64) hx hb dX11_count_84 (by rw [c33]; decide) (by rw [c33]; decide) (by rw [c33]; decide) (by decide) ?_
        refine lv_iload_n hx hb dX11_count_148 rfl (lv_at hl 3 rfl) ?_
        obtain rfl := so1 hf
        exact kR _ _ _ _ hW dX11_count_149
      replace hf := iff_ hf c33
      by_cases c34 : a1 = 5
      · replace hf := ift_ hf c34
        refine lv_tableIn (tgt := 150) (off := 66) hx hb dX11_count_84 (by rw [c34]; decide) (by rw [c34]; decide) (by rw [c34]; decide) (by decide) ?_
        refine lv_aload_n hx hb dX11_count_150 rfl (lv_at hl 0 rfl) ?_
        refine g_get (ci := 11) (k := 0) (val := .ref (E.ad 61)) C g_us hW rfl rfl rfl (in_sid _ rfl) (by decide) f_RX11_7 rfl dX11_count_151 ?_
        refine lv_sipush (v := 132) hx hb dX11_count_154 (by decide) ?_
        replace hf := bd_so hf
        obtain ⟨x35, h36, hf⟩ := hf
        refine g_iald C hW h36 dX11_count_157 ?_
        obtain rfl := so1 hf
        exact kR _ _ _ _ hW dX11_count_158
      replace hf := iff_ hf c34
      refine lv_tableOut (tgt := 159) hx hb dX11_count_84 (sw_out5 c21 c24 c29 c30 c33 c34) (by decide) ?_
      refine lv_iconst (v := (-1)) hx hb dX11_count_159 (by decide) ?_
      obtain rfl := so1 hf
      exact kR _ _ _ _ hW dX11_count_160
    exact X11_count_L40_c _ _ _ _ FU _ _ _ _ _ hW (lv_sub hl [2, 3, 4, 1, 0] rfl) h20 (fun _ H locs ls e hW hl => by cases e; exact J37 H locs ls hW hl)
  exact X11_count_L5_c _ _ _ FU _ _ _ _ _ hW (lv_sub hl [2, 3, 1, 0] rfl) h9 (fun _ H locs ls e hW hl => by cases e; exact J38 H locs ls hW hl)

abbrev rm_X11_hold : Room := { frames := 3, cells := 0, slots := 0, locals := 106 }
set_option maxHeartbeats 4000000 in
set_option maxRecDepth 100000 in
theorem c_X11_hold (l : Launch) (E : En) (S : St) (a1 : Int32) (a2 : Int32) (r : Int32) (hf : X11_hold S a1 a2 = some r) : Mi l E yX11_hold cX11_hold 8 (some .int) rm_X11_hold [.ref (E.ad 60), .int a1, .int a2] S r S := by
  refine g_startI (cc := cX11_hold) (n := 8) (by decide) (Nat.le_of_ble_eq_true rfl) ?_
  intro p e s m args below meth c Q H locs C kR hW ls hl
  obtain ⟨⟨hx, hb, hml, hown, hts⟩, hK, hT⟩ := id C
  have hl : lv_has ls 8 [(0, .ref (E.ad 60)), (1, .int a1), (2, .int a2)] := hl
  have X11_hold_L42_c : ∀ (S : St) (v1 : Int32) (v2 : Int32) (res : (Int32 × Int32 × Int32) ⊕ (Int32)) (n : Nat) (v3 : Int32) (v4 : Int32) (v5 : Int32) (v6 : Int32) (H : Heap) (locs : List Loc) (ls : Array Slot), Ww E S s H locs → lv_has ls 8 [(0, .ref (E.ad 60)), (1, .int v1), (2, .int v2), (3, .int v3), (4, .int v4), (5, .int v5), (6, .int v6)] → X11_hold_L42 S v1 v2 n v3 v4 v5 v6 = some res → (∀ (w3 : Int32) (w4 : Int32) (w5 : Int32) (H : Heap) (locs : List Loc) (ls : Array Slot), some (.inl (w3, w4, w5)) = some res → Ww E S s H locs → lv_has ls 8 [(2, .int v2), (3, .int w3), (4, .int w4), (5, .int w5)] → W p l e rm_X11_hold s m args below meth c H locs 0 0 Q (F0 m 112 ls [])) → (∀ (r0 : Int32) (H : Heap) (locs : List Loc) (pc : Nat) (ls : Array Slot), some (.inr r0) = some res → Ww E S s H locs → decode cX11_hold pc = .ok (.ireturn, 1) → W p l e rm_X11_hold s m args below meth c H locs 0 0 Q (F0 m pc ls [.int r0])) → W p l e rm_X11_hold s m args below meth c H locs 0 0 Q (F0 m 42 ls []) := by
    intro S v1 v2 res n
    induction n with
    | zero =>
      intro v3 v4 v5 v6 H locs ls hW hl hf
      cases hf
    | succ n ih =>
      intro v3 v4 v5 v6 H locs ls hW hl hf kE kR
      unfold X11_hold_L42 at hf
      refine lv_iload hx hb dX11_hold_42 (lv_at hl 6 rfl) ?_
      refine lv_aload_n hx hb dX11_hold_44 rfl (lv_at hl 0 rfl) ?_
      replace hf := bd_so hf
      obtain ⟨x11, h10, hf⟩ := hf
      refine g_callVi (ci := 11) (As := []) (rest := [.int v6]) C g_us hW hl.1 (c_X11_rooms l E S  _ h10) rfl rfl rfl (in_sid _ rfl) k_RX11_82 rfl ⟨rfl, rfl⟩ ⟨Nat.le_of_ble_eq_true rfl, Nat.le_of_ble_eq_true rfl⟩ ⟨Nat.zero_le _, Nat.zero_le _⟩ _ rfl (Nat.le_of_ble_eq_true rfl) dX11_hold_45 (fun H locs hW => ?_)
      refine lv_icmp_ge (tgt := 112) hx hb dX11_hold_48 (by decide) (fun c12 => ?_) (fun c12 => ?_)
      · replace hf := ift_ hf c12
        exact kE _ _ _ _ _ _ hf hW (lv_sub hl [2, 3, 4, 5] rfl)
      · replace hf := iff_ hf c12
        refine lv_iload hx hb dX11_hold_51 (lv_at hl 6 rfl) ?_
        refine lv_iload_n hx hb dX11_hold_53 rfl (lv_at hl 1 rfl) ?_
        refine lv_icmp_eq (tgt := 106) hx hb dX11_hold_54 (by decide) (fun c13 => ?_) (fun c13 => ?_)
        · replace hf := ift_ hf c13
          refine lv_iinc (v := (v6 + 1)) (lv' := [(6, .int (v6 + 1)), (0, .ref (E.ad 60)), (1, .int v1), (2, .int v2), (3, .int v3), (4, .int v4), (5, .int v5)]) hx hb dX11_hold_106 hl (k := 6) rfl rfl (by decide) rfl (fun ls hl => ?_)
          refine lv_goto (tgt := 42) hx hb dX11_hold_109 (by decide) ?_
          exact ih _ _ _ _ _ _ _ hW (lv_sub hl [1, 2, 3, 4, 5, 6, 0] rfl) hf kE kR
        · replace hf := iff_ hf c13
          refine lv_aload_n hx hb dX11_hold_57 rfl (lv_at hl 0 rfl) ?_
          refine lv_iload hx hb dX11_hold_58 (lv_at hl 6 rfl) ?_
          replace hf := bd_so hf
          obtain ⟨x15, h14, hf⟩ := hf
          refine g_callVi (ci := 11) (As := [.int v6]) (rest := []) C g_us hW hl.1 (c_X11_sings l E S v6 _ h14) rfl rfl rfl (in_sid _ rfl) k_RX11_111 rfl ⟨rfl, rfl⟩ ⟨Nat.le_of_ble_eq_true rfl, Nat.le_of_ble_eq_true rfl⟩ ⟨Nat.zero_le _, Nat.zero_le _⟩ _ rfl (Nat.le_of_ble_eq_true rfl) dX11_hold_60 (fun H locs hW => ?_)
          refine lv_if_eq (tgt := 106) hx hb dX11_hold_63 (by decide) (fun c16 => ?_) (fun c16 => ?_)
          · replace hf := ift_ hf c16
            refine lv_iinc (v := (v6 + 1)) (lv' := [(6, .int (v6 + 1)), (0, .ref (E.ad 60)), (1, .int v1), (2, .int v2), (3, .int v3), (4, .int v4), (5, .int v5)]) hx hb dX11_hold_106 hl (k := 6) rfl rfl (by decide) rfl (fun ls hl => ?_)
            refine lv_goto (tgt := 42) hx hb dX11_hold_109 (by decide) ?_
            exact ih _ _ _ _ _ _ _ hW (lv_sub hl [1, 2, 3, 4, 5, 6, 0] rfl) hf kE kR
          · replace hf := iff_ hf c16
            refine lv_aload_n hx hb dX11_hold_66 rfl (lv_at hl 0 rfl) ?_
            refine lv_iload hx hb dX11_hold_67 (lv_at hl 6 rfl) ?_
            refine lv_iload_n hx hb dX11_hold_69 rfl (lv_at hl 1 rfl) ?_
            replace hf := bd_so hf
            obtain ⟨x18, h17, hf⟩ := hf
            refine g_callVi (ci := 11) (As := [.int v6, .int v1]) (rest := []) C g_us hW hl.1 (c_X11_wireOf l E S v6 v1 _ h17) rfl rfl rfl (in_sid _ rfl) k_RX11_96 rfl ⟨rfl, rfl⟩ ⟨Nat.le_of_ble_eq_true rfl, Nat.le_of_ble_eq_true rfl⟩ ⟨Nat.zero_le _, Nat.zero_le _⟩ _ rfl (Nat.le_of_ble_eq_true rfl) dX11_hold_70 (fun H locs hW => ?_)
            refine lv_istore (lv' := [(7, .int x18), (0, .ref (E.ad 60)), (1, .int v1), (2, .int v2), (3, .int v3), (4, .int v4), (5, .int v5), (6, .int v6)]) hx hb dX11_hold_73 hl (by decide) rfl (fun ls hl => ?_)
            refine lv_iload hx hb dX11_hold_75 (lv_at hl 0 rfl) ?_
            refine lv_if_ne (tgt := 83) hx hb dX11_hold_77 (by decide) (fun c19 => ?_) (fun c19 => ?_)
            · replace hf := iff_ hf c19
              refine lv_iload hx hb dX11_hold_83 (lv_at hl 0 rfl) ?_
              refine lv_iload_n hx hb dX11_hold_85 rfl (lv_at hl 4 rfl) ?_
              replace hf := bd_so hf
              obtain ⟨x21, h22, hf⟩ := hf
              have J23 : ∀ (H : Heap) (locs : List Loc) (ls : Array Slot), Ww E S s H locs → lv_has ls 8 [(0, .ref (E.ad 60)), (1, .int v1), (2, .int v2), (4, .int v4), (5, .int v5), (6, .int v6), (7, .int x18)] → W p l e rm_X11_hold s m args below meth c H locs 0 0 Q (F0 m 95 ls [.int x21]) := by
                intro H locs ls hW hl
                refine lv_istore_n (lv' := [(3, .int x21), (0, .ref (E.ad 60)), (1, .int v1), (2, .int v2), (4, .int v4), (5, .int v5), (6, .int v6), (7, .int x18)]) hx hb dX11_hold_95 rfl hl (by decide) rfl (fun ls hl => ?_)
                refine lv_iload hx hb dX11_hold_96 (lv_at hl 4 rfl) ?_
                refine lv_iload hx hb dX11_hold_98 (lv_at hl 7 rfl) ?_
                refine lv_iadd hx hb dX11_hold_100 ?_
                refine lv_istore (lv' := [(4, .int (v4 + x18)), (3, .int x21), (0, .ref (E.ad 60)), (1, .int v1), (2, .int v2), (5, .int v5), (6, .int v6), (7, .int x18)]) hx hb dX11_hold_101 hl (by decide) rfl (fun ls hl => ?_)
                refine lv_iinc (v := (v5 + 1)) (lv' := [(5, .int (v5 + 1)), (4, .int (v4 + x18)), (3, .int x21), (0, .ref (E.ad 60)), (1, .int v1), (2, .int v2), (6, .int v6), (7, .int x18)]) hx hb dX11_hold_103 hl (k := 5) rfl rfl (by decide) rfl (fun ls hl => ?_)
                refine lv_iinc (v := (v6 + 1)) (lv' := [(6, .int (v6 + 1)), (5, .int (v5 + 1)), (4, .int (v4 + x18)), (3, .int x21), (0, .ref (E.ad 60)), (1, .int v1), (2, .int v2), (7, .int x18)]) hx hb dX11_hold_106 hl (k := 6) rfl rfl (by decide) rfl (fun ls hl => ?_)
                refine lv_goto (tgt := 42) hx hb dX11_hold_109 (by decide) ?_
                exact ih _ _ _ _ _ _ _ hW (lv_sub hl [4, 5, 6, 3, 2, 1, 0] rfl) hf kE kR
              clear hf
              have hf := h22
              clear h22
              refine lv_icmp_le (tgt := 94) hx hb dX11_hold_86 (by decide) (fun c20 => ?_) (fun c20 => ?_)
              · replace hf := ift_ hf c20
                refine lv_iload_n hx hb dX11_hold_94 rfl (lv_at hl 4 rfl) ?_
                obtain rfl := so1 hf
                exact J23 _ _ _ hW (lv_sub hl [1, 2, 3, 5, 6, 7, 0] rfl)
              · replace hf := iff_ hf c20
                refine lv_iload hx hb dX11_hold_89 (lv_at hl 0 rfl) ?_
                refine lv_goto (tgt := 95) hx hb dX11_hold_91 (by decide) ?_
                obtain rfl := so1 hf
                exact J23 _ _ _ hW (lv_sub hl [1, 2, 3, 5, 6, 7, 0] rfl)
            · replace hf := ift_ hf c19
              refine lv_bipush (v := (-4)) hx hb dX11_hold_80 (by decide) ?_
              exact kR _ _ _ _ _ hf hW dX11_hold_82
  unfold X11_hold at hf
  refine lv_aload_n hx hb dX11_hold_0 rfl (lv_at hl 0 rfl) ?_
  refine lv_iload_n hx hb dX11_hold_1 rfl (lv_at hl 1 rfl) ?_
  replace hf := bd_so hf
  obtain ⟨x2, h1, hf⟩ := hf
  refine g_callVi (ci := 11) (As := [.int a1]) (rest := []) C g_us hW hl.1 (c_X11_isRoom l E S a1 _ h1) rfl rfl rfl (in_sid _ rfl) k_RX11_86 rfl ⟨rfl, rfl⟩ ⟨Nat.le_of_ble_eq_true rfl, Nat.le_of_ble_eq_true rfl⟩ ⟨Nat.zero_le _, Nat.zero_le _⟩ _ rfl (Nat.le_of_ble_eq_true rfl) dX11_hold_2 (fun H locs hW => ?_)
  refine lv_if_eq (tgt := 18) hx hb dX11_hold_5 (by decide) (fun c3 => ?_) (fun c3 => ?_)
  · replace hf := ift_ hf c3
    refine lv_iconst (v := (-1)) hx hb dX11_hold_18 (by decide) ?_
    obtain rfl := so1 hf
    exact kR _ _ _ _ hW dX11_hold_19
  · replace hf := iff_ hf c3
    refine lv_iload_n hx hb dX11_hold_8 rfl (lv_at hl 2 rfl) ?_
    refine lv_i2l (v := (a2 : Int32).toInt64) hx hb dX11_hold_9 rfl ?_
    refine lv_lconst (v := 0) hx hb dX11_hold_10 (by decide) ?_
    refine lv_lconst (v := 1) hx hb dX11_hold_11 (by decide) ?_
    replace hf := bd_so hf
    obtain ⟨x5, h4, hf⟩ := hf
    refine g_callSi (As := [.long ((a2 : Int32).toInt64), .long 0, .long 1]) (rest := []) C g_us hW hl.1 (c_X11_in l E S ((a2 : Int32).toInt64) 0 1 _ h4) k_RX11_72 rfl ⟨rfl, rfl⟩ ⟨Nat.le_of_ble_eq_true rfl, Nat.le_of_ble_eq_true rfl⟩ ⟨Nat.zero_le _, Nat.zero_le _⟩ _ rfl (Nat.le_of_ble_eq_true rfl) dX11_hold_12 (fun H locs hW => ?_)
    refine lv_if_ne (tgt := 20) hx hb dX11_hold_15 (by decide) (fun c6 => ?_) (fun c6 => ?_)
    · replace hf := iff_ hf c6
      refine lv_aload_n hx hb dX11_hold_20 rfl (lv_at hl 0 rfl) ?_
      refine lv_iload_n hx hb dX11_hold_21 rfl (lv_at hl 1 rfl) ?_
      replace hf := bd_so hf
      obtain ⟨x8, h7, hf⟩ := hf
      refine g_callVi (ci := 11) (As := [.int a1]) (rest := []) C g_us hW hl.1 (c_X11_isCut l E S a1 _ h7) rfl rfl rfl (in_sid _ rfl) k_RX11_137 rfl ⟨rfl, rfl⟩ ⟨Nat.le_of_ble_eq_true rfl, Nat.le_of_ble_eq_true rfl⟩ ⟨Nat.zero_le _, Nat.zero_le _⟩ _ rfl (Nat.le_of_ble_eq_true rfl) dX11_hold_22 (fun H locs hW => ?_)
      refine lv_if_eq (tgt := 31) hx hb dX11_hold_25 (by decide) (fun c9 => ?_) (fun c9 => ?_)
      · replace hf := ift_ hf c9
        refine lv_iconst (v := 0) hx hb dX11_hold_31 (by decide) ?_
        refine lv_istore_n (lv' := [(3, .int 0), (0, .ref (E.ad 60)), (1, .int a1), (2, .int a2)]) hx hb dX11_hold_32 rfl hl (by decide) rfl (fun ls hl => ?_)
        refine lv_iconst (v := 0) hx hb dX11_hold_33 (by decide) ?_
        refine lv_istore (lv' := [(4, .int 0), (3, .int 0), (0, .ref (E.ad 60)), (1, .int a1), (2, .int a2)]) hx hb dX11_hold_34 hl (by decide) rfl (fun ls hl => ?_)
        refine lv_iconst (v := 0) hx hb dX11_hold_36 (by decide) ?_
        refine lv_istore (lv' := [(5, .int 0), (4, .int 0), (3, .int 0), (0, .ref (E.ad 60)), (1, .int a1), (2, .int a2)]) hx hb dX11_hold_37 hl (by decide) rfl (fun ls hl => ?_)
        refine lv_iconst (v := 0) hx hb dX11_hold_39 (by decide) ?_
        refine lv_istore (lv' := [(6, .int 0), (5, .int 0), (4, .int 0), (3, .int 0), (0, .ref (E.ad 60)), (1, .int a1), (2, .int a2)]) hx hb dX11_hold_40 hl (by decide) rfl (fun ls hl => ?_)
        replace hf := bd_so hf
        obtain ⟨t, h27, hf⟩ := hf
        rcases t with ⟨x24, x25, x26⟩ | x30
        · dsimp only at hf
          have J29 : ∀ (H : Heap) (locs : List Loc) (ls : Array Slot), Ww E S s H locs → lv_has ls 8 [(2, .int a2), (3, .int x24), (4, .int x25), (5, .int x26)] → W p l e rm_X11_hold s m args below meth c H locs 0 0 Q (F0 m 112 ls []) := by
            intro H locs ls hW hl
            refine lv_iload_n hx hb dX11_hold_112 rfl (lv_at hl 0 rfl) ?_
            refine lv_if_ne (tgt := 120) hx hb dX11_hold_113 (by decide) (fun c28 => ?_) (fun c28 => ?_)
            · replace hf := iff_ hf c28
              refine lv_iload hx hb dX11_hold_120 (lv_at hl 3 rfl) ?_
              refine lv_iload_n hx hb dX11_hold_122 rfl (lv_at hl 1 rfl) ?_
              refine lv_imul hx hb dX11_hold_123 ?_
              refine lv_iload hx hb dX11_hold_124 (lv_at hl 2 rfl) ?_
              refine lv_isub hx hb dX11_hold_126 ?_
              obtain rfl := so1 hf
              exact kR _ _ _ _ hW dX11_hold_127
            · replace hf := ift_ hf c28
              refine lv_iload_n hx hb dX11_hold_116 rfl (lv_at hl 1 rfl) ?_
              refine lv_goto (tgt := 127) hx hb dX11_hold_117 (by decide) ?_
              obtain rfl := so1 hf
              exact kR _ _ _ _ hW dX11_hold_127
          exact X11_hold_L42_c _ _ _ _ FU _ _ _ _ _ _ _ hW (lv_sub hl [4, 5, 6, 3, 2, 1, 0] rfl) h27 (fun _ _ _ H locs ls e hW hl => by cases e; exact J29 H locs ls hW hl) (fun _ H locs pc ls e hW dd => by cases e)
        · dsimp only at hf
          refine X11_hold_L42_c _ _ _ _ FU _ _ _ _ _ _ _ hW (lv_sub hl [4, 5, 6, 3, 2, 1, 0] rfl) h27 (fun _ _ _ H locs ls e hW hl => by cases e) (fun _ H locs pc ls e hW dd => ?_)
          cases e
          obtain rfl := so1 hf
          exact kR _ _ _ _ hW dd
      · replace hf := iff_ hf c9
        refine lv_bipush (v := (-4)) hx hb dX11_hold_28 (by decide) ?_
        obtain rfl := so1 hf
        exact kR _ _ _ _ hW dX11_hold_30
    · replace hf := ift_ hf c6
      refine lv_iconst (v := (-1)) hx hb dX11_hold_18 (by decide) ?_
      obtain rfl := so1 hf
      exact kR _ _ _ _ hW dX11_hold_19

abbrev rm_X11_bars : Room := { frames := 3, cells := 0, slots := 0, locals := 103 }
set_option maxHeartbeats 4000000 in
set_option maxRecDepth 100000 in
theorem c_X11_bars (l : Launch) (E : En) (S : St) (a1 : Int32) (a2 : Int32) (r : Int32) (S1 : St) (hf : X11_bars S a1 a2 = some (r, S1)) : Mi l E yX11_bars cX11_bars 10 (some .int) rm_X11_bars [.ref (E.ad 60), .int a1, .int a2] S r S1 := by
  refine g_startI (cc := cX11_bars) (n := 10) (by decide) (Nat.le_of_ble_eq_true rfl) ?_
  intro p e s m args below meth c Q H locs C kR hW ls hl
  obtain ⟨⟨hx, hb, hml, hown, hts⟩, hK, hT⟩ := id C
  have hl : lv_has ls 10 [(0, .ref (E.ad 60)), (1, .int a1), (2, .int a2)] := hl
  have X11_bars_L52_c : ∀ (S : St) (v1 : Int32) (v2 : Int32) (v3 : Int32) (v4 : Int32) (res : Int32 × Int32) (n : Nat) (v5 : Int32) (v6 : Int32) (v7 : Int32) (H : Heap) (locs : List Loc) (ls : Array Slot), Ww E S s H locs → lv_has ls 10 [(0, .ref (E.ad 60)), (1, .int v1), (2, .int v2), (3, .int v3), (4, .int v4), (5, .int v5), (6, .int v6), (7, .int v7)] → X11_bars_L52 S v1 v2 v3 v4 n v5 v6 v7 = some res → (∀ (w5 : Int32) (w6 : Int32) (H : Heap) (locs : List Loc) (ls : Array Slot), some (w5, w6) = some res → Ww E S s H locs → lv_has ls 10 [(0, .ref (E.ad 60)), (1, .int v1), (2, .int v2), (3, .int v3), (4, .int v4), (5, .int w5), (6, .int w6)] → W p l e rm_X11_bars s m args below meth c H locs 0 0 Q (F0 m 145 ls [])) → W p l e rm_X11_bars s m args below meth c H locs 0 0 Q (F0 m 52 ls []) := by
    intro S v1 v2 v3 v4 res n
    induction n with
    | zero =>
      intro v5 v6 v7 H locs ls hW hl hf
      cases hf
    | succ n ih =>
      intro v5 v6 v7 H locs ls hW hl hf kE
      unfold X11_bars_L52 at hf
      refine lv_iload hx hb dX11_bars_52 (lv_at hl 7 rfl) ?_
      refine lv_aload_n hx hb dX11_bars_54 rfl (lv_at hl 0 rfl) ?_
      replace hf := bd_so hf
      obtain ⟨x13, h12, hf⟩ := hf
      refine g_callVi (ci := 11) (As := []) (rest := [.int v7]) C g_us hW hl.1 (c_X11_rooms l E S  _ h12) rfl rfl rfl (in_sid _ rfl) k_RX11_82 rfl ⟨rfl, rfl⟩ ⟨Nat.le_of_ble_eq_true rfl, Nat.le_of_ble_eq_true rfl⟩ ⟨Nat.zero_le _, Nat.zero_le _⟩ _ rfl (Nat.le_of_ble_eq_true rfl) dX11_bars_55 (fun H locs hW => ?_)
      refine lv_icmp_ge (tgt := 145) hx hb dX11_bars_58 (by decide) (fun c14 => ?_) (fun c14 => ?_)
      · replace hf := ift_ hf c14
        exact kE _ _ _ _ _ hf hW (lv_sub hl [0, 1, 2, 3, 4, 5, 6] rfl)
      · replace hf := iff_ hf c14
        refine lv_iload_n hx hb dX11_bars_61 rfl (lv_at hl 2 rfl) ?_
        refine lv_iload hx hb dX11_bars_62 (lv_at hl 7 rfl) ?_
        refine lv_ishr hx hb dX11_bars_64 ?_
        refine lv_iconst (v := 1) hx hb dX11_bars_65 (by decide) ?_
        refine lv_iand hx hb dX11_bars_66 ?_
        refine lv_iconst (v := 1) hx hb dX11_bars_67 (by decide) ?_
        replace hf := bd_so hf
        obtain ⟨x16, h17, hf⟩ := hf
        have J18 : ∀ (H : Heap) (locs : List Loc) (ls : Array Slot), Ww E S s H locs → lv_has ls 10 [(0, .ref (E.ad 60)), (1, .int v1), (2, .int v2), (3, .int v3), (4, .int v4), (5, .int v5), (6, .int v6), (7, .int v7)] → W p l e rm_X11_bars s m args below meth c H locs 0 0 Q (F0 m 76 ls [.int x16]) := by
          intro H locs ls hW hl
          refine lv_istore (lv' := [(8, .int x16), (0, .ref (E.ad 60)), (1, .int v1), (2, .int v2), (3, .int v3), (4, .int v4), (5, .int v5), (6, .int v6), (7, .int v7)]) hx hb dX11_bars_76 hl (by decide) rfl (fun ls hl => ?_)
          refine lv_iload hx hb dX11_bars_78 (lv_at hl 6 rfl) ?_
          replace hf := bd_so hf
          obtain ⟨x20, h21, hf⟩ := hf
          have J22 : ∀ (H : Heap) (locs : List Loc) (ls : Array Slot), Ww E S s H locs → lv_has ls 10 [(0, .ref (E.ad 60)), (1, .int v1), (2, .int v2), (3, .int v3), (4, .int v4), (6, .int v6), (7, .int v7), (8, .int x16)] → W p l e rm_X11_bars s m args below meth c H locs 0 0 Q (F0 m 104 ls [.int x20]) := by
            intro H locs ls hW hl
            refine lv_istore (lv' := [(5, .int x20), (0, .ref (E.ad 60)), (1, .int v1), (2, .int v2), (3, .int v3), (4, .int v4), (6, .int v6), (7, .int v7), (8, .int x16)]) hx hb dX11_bars_104 hl (by decide) rfl (fun ls hl => ?_)
            refine lv_iload hx hb dX11_bars_106 (lv_at hl 8 rfl) ?_
            replace hf := bd_so hf
            obtain ⟨x24, h25, hf⟩ := hf
            have J26 : ∀ (H : Heap) (locs : List Loc) (ls : Array Slot), Ww E S s H locs → lv_has ls 10 [(0, .ref (E.ad 60)), (1, .int v1), (2, .int v2), (3, .int v3), (4, .int v4), (5, .int x20), (7, .int v7)] → W p l e rm_X11_bars s m args below meth c H locs 0 0 Q (F0 m 137 ls [.int x24]) := by
              intro H locs ls hW hl
              refine lv_istore (lv' := [(6, .int x24), (0, .ref (E.ad 60)), (1, .int v1), (2, .int v2), (3, .int v3), (4, .int v4), (5, .int x20), (7, .int v7)]) hx hb dX11_bars_137 hl (by decide) rfl (fun ls hl => ?_)
              refine lv_iinc (v := (v7 + 1)) (lv' := [(7, .int (v7 + 1)), (6, .int x24), (0, .ref (E.ad 60)), (1, .int v1), (2, .int v2), (3, .int v3), (4, .int v4), (5, .int x20)]) hx hb dX11_bars_139 hl (k := 7) rfl rfl (by decide) rfl (fun ls hl => ?_)
              refine lv_goto (tgt := 52) hx hb dX11_bars_142 (by decide) ?_
              exact ih _ _ _ _ _ _ hW (lv_sub hl [2, 3, 4, 5, 6, 7, 1, 0] rfl) hf kE
            clear hf
            have hf := h25
            clear h25
            refine lv_if_eq (tgt := 135) hx hb dX11_bars_108 (by decide) (fun c23 => ?_) (fun c23 => ?_)
            · replace hf := ift_ hf c23
              refine lv_iload hx hb dX11_bars_135 (lv_at hl 6 rfl) ?_
              obtain rfl := so1 hf
              exact J26 _ _ _ hW (lv_sub hl [1, 2, 3, 4, 5, 0, 7] rfl)
            · replace hf := iff_ hf c23
              refine lv_aload_n hx hb dX11_bars_111 rfl (lv_at hl 1 rfl) ?_
              refine lv_iload hx hb dX11_bars_112 (lv_at hl 7 rfl) ?_
              refine lv_iload hx hb dX11_bars_114 (lv_at hl 5 rfl) ?_
              replace hf := bd_so hf
              obtain ⟨x28, h27, hf⟩ := hf
              refine g_callVi (ci := 11) (As := [.int v7, .int v4]) (rest := []) C g_us hW hl.1 (c_X11_wireOf l E S v7 v4 _ h27) rfl rfl rfl (in_sid _ rfl) k_RX11_96 rfl ⟨rfl, rfl⟩ ⟨Nat.le_of_ble_eq_true rfl, Nat.le_of_ble_eq_true rfl⟩ ⟨Nat.zero_le _, Nat.zero_le _⟩ _ rfl (Nat.le_of_ble_eq_true rfl) dX11_bars_116 (fun H locs hW => ?_)
              refine lv_iload hx hb dX11_bars_119 (lv_at hl 6 rfl) ?_
              refine lv_icmp_ge (tgt := 135) hx hb dX11_bars_121 (by decide) (fun c29 => ?_) (fun c29 => ?_)
              · replace hf := ift_ hf c29
                refine lv_iload hx hb dX11_bars_135 (lv_at hl 6 rfl) ?_
                obtain rfl := so1 hf
                exact J26 _ _ _ hW (lv_sub hl [1, 2, 3, 4, 5, 0, 7] rfl)
              · replace hf := iff_ hf c29
                refine lv_aload_n hx hb dX11_bars_124 rfl (lv_at hl 1 rfl) ?_
                refine lv_iload hx hb dX11_bars_125 (lv_at hl 7 rfl) ?_
                refine lv_iload hx hb dX11_bars_127 (lv_at hl 5 rfl) ?_
                replace hf := bd_so hf
                obtain ⟨x31, h30, hf⟩ := hf
                refine g_callVi (ci := 11) (As := [.int v7, .int v4]) (rest := []) C g_us hW hl.1 (c_X11_wireOf l E S v7 v4 _ h30) rfl rfl rfl (in_sid _ rfl) k_RX11_96 rfl ⟨rfl, rfl⟩ ⟨Nat.le_of_ble_eq_true rfl, Nat.le_of_ble_eq_true rfl⟩ ⟨Nat.zero_le _, Nat.zero_le _⟩ _ rfl (Nat.le_of_ble_eq_true rfl) dX11_bars_129 (fun H locs hW => ?_)
                refine lv_goto (tgt := 137) hx hb dX11_bars_132 (by decide) ?_
                obtain rfl := so1 hf
                exact J26 _ _ _ hW (lv_sub hl [1, 2, 3, 4, 5, 0, 7] rfl)
          clear hf
          have hf := h21
          clear h21
          refine lv_if_eq (tgt := 103) hx hb dX11_bars_80 (by decide) (fun c19 => ?_) (fun c19 => ?_)
          · replace hf := ift_ hf c19
            refine lv_iconst (v := 0) hx hb dX11_bars_103 (by decide) ?_
            obtain rfl := so1 hf
            exact J22 _ _ _ hW (lv_sub hl [1, 2, 3, 4, 5, 7, 8, 0] rfl)
          · replace hf := iff_ hf c19
            refine lv_iload hx hb dX11_bars_83 (lv_at hl 0 rfl) ?_
            refine lv_if_eq (tgt := 99) hx hb dX11_bars_85 (by decide) (fun c32 => ?_) (fun c32 => ?_)
            · replace hf := ift_ hf c32
              refine lv_iconst (v := 1) hx hb dX11_bars_99 (by decide) ?_
              refine lv_goto (tgt := 104) hx hb dX11_bars_100 (by decide) ?_
              obtain rfl := so1 hf
              exact J22 _ _ _ hW (lv_sub hl [1, 2, 3, 4, 5, 7, 8, 0] rfl)
            · replace hf := iff_ hf c32
              refine lv_aload_n hx hb dX11_bars_88 rfl (lv_at hl 1 rfl) ?_
              refine lv_iload hx hb dX11_bars_89 (lv_at hl 8 rfl) ?_
              refine lv_iload hx hb dX11_bars_91 (lv_at hl 5 rfl) ?_
              replace hf := bd_so hf
              obtain ⟨x34, h33, hf⟩ := hf
              refine g_callVi (ci := 11) (As := [.int v7, .int v4]) (rest := []) C g_us hW hl.1 (c_X11_wireOf l E S v7 v4 _ h33) rfl rfl rfl (in_sid _ rfl) k_RX11_96 rfl ⟨rfl, rfl⟩ ⟨Nat.le_of_ble_eq_true rfl, Nat.le_of_ble_eq_true rfl⟩ ⟨Nat.zero_le _, Nat.zero_le _⟩ _ rfl (Nat.le_of_ble_eq_true rfl) dX11_bars_93 (fun H locs hW => ?_)
              refine lv_if_le (tgt := 103) hx hb dX11_bars_96 (by decide) (fun c35 => ?_) (fun c35 => ?_)
              · replace hf := ift_ hf c35
                refine lv_iconst (v := 0) hx hb dX11_bars_103 (by decide) ?_
                obtain rfl := so1 hf
                exact J22 _ _ _ hW (lv_sub hl [1, 2, 3, 4, 5, 7, 8, 0] rfl)
              · replace hf := iff_ hf c35
                refine lv_iconst (v := 1) hx hb dX11_bars_99 (by decide) ?_
                refine lv_goto (tgt := 104) hx hb dX11_bars_100 (by decide) ?_
                obtain rfl := so1 hf
                exact J22 _ _ _ hW (lv_sub hl [1, 2, 3, 4, 5, 7, 8, 0] rfl)
        clear hf
        have hf := h17
        clear h17
        refine lv_icmp_ne (tgt := 75) hx hb dX11_bars_68 (by decide) (fun c15 => ?_) (fun c15 => ?_)
        · replace hf := iff_ hf c15
          refine lv_iconst (v := 0) hx hb dX11_bars_75 (by decide) ?_
          obtain rfl := so1 hf
          exact J18 _ _ _ hW (lv_sub hl [0, 1, 2, 3, 4, 5, 6, 7] rfl)
        · replace hf := ift_ hf c15
          refine lv_iconst (v := 1) hx hb dX11_bars_71 (by decide) ?_
          refine lv_goto (tgt := 76) hx hb dX11_bars_72 (by decide) ?_
          obtain rfl := so1 hf
          exact J18 _ _ _ hW (lv_sub hl [0, 1, 2, 3, 4, 5, 6, 7] rfl)
  have X11_bars_L153_c : ∀ (v1 : Int32) (v2 : Int32) (v3 : Int32) (v4 : Int32) (v6 : Int32) (res : Int32 × St) (n : Nat) (v5 : Int32) (v7 : Int32) (v8 : Int32) (S : St) (H : Heap) (locs : List Loc) (ls : Array Slot), Ww E S s H locs → lv_has ls 10 [(0, .ref (E.ad 60)), (1, .int v1), (2, .int v2), (3, .int v3), (4, .int v4), (5, .int v5), (6, .int v6), (7, .int v7), (8, .int v8)] → X11_bars_L153 v1 v2 v3 v4 v6 n v5 v7 v8 S = some res → (∀ (w5 : Int32) (T : St) (H : Heap) (locs : List Loc) (ls : Array Slot), some (w5, T) = some res → Ww E T s H locs → lv_has ls 10 [(0, .ref (E.ad 60)), (1, .int v1), (2, .int v2), (3, .int v3), (4, .int v4), (5, .int w5)] → W p l e rm_X11_bars s m args below meth c H locs 0 0 Q (F0 m 264 ls [])) → W p l e rm_X11_bars s m args below meth c H locs 0 0 Q (F0 m 153 ls []) := by
    intro v1 v2 v3 v4 v6 res n
    induction n with
    | zero =>
      intro v5 v7 v8 S H locs ls hW hl hf
      cases hf
    | succ n ih =>
      intro v5 v7 v8 S H locs ls hW hl hf kE
      unfold X11_bars_L153 at hf
      refine lv_iload hx hb dX11_bars_153 (lv_at hl 8 rfl) ?_
      refine lv_aload_n hx hb dX11_bars_155 rfl (lv_at hl 0 rfl) ?_
      replace hf := bd_so hf
      obtain ⟨x40, h39, hf⟩ := hf
      refine g_callVi (ci := 11) (As := []) (rest := [.int v8]) C g_us hW hl.1 (c_X11_rooms l E S  _ h39) rfl rfl rfl (in_sid _ rfl) k_RX11_82 rfl ⟨rfl, rfl⟩ ⟨Nat.le_of_ble_eq_true rfl, Nat.le_of_ble_eq_true rfl⟩ ⟨Nat.zero_le _, Nat.zero_le _⟩ _ rfl (Nat.le_of_ble_eq_true rfl) dX11_bars_156 (fun H locs hW => ?_)
      refine lv_icmp_ge (tgt := 264) hx hb dX11_bars_159 (by decide) (fun c41 => ?_) (fun c41 => ?_)
      · replace hf := ift_ hf c41
        exact kE _ _ _ _ _ hf hW (lv_sub hl [0, 1, 2, 3, 4, 5] rfl)
      · replace hf := iff_ hf c41
        refine lv_iload hx hb dX11_bars_162 (lv_at hl 5 rfl) ?_
        refine lv_if_eq (tgt := 264) hx hb dX11_bars_164 (by decide) (fun c42 => ?_) (fun c42 => ?_)
        · replace hf := ift_ hf c42
          exact kE _ _ _ _ _ hf hW (lv_sub hl [0, 1, 2, 3, 4, 5] rfl)
        · replace hf := iff_ hf c42
          refine lv_iload_n hx hb dX11_bars_167 rfl (lv_at hl 2 rfl) ?_
          refine lv_iload hx hb dX11_bars_168 (lv_at hl 8 rfl) ?_
          refine lv_ishr hx hb dX11_bars_170 ?_
          refine lv_iconst (v := 1) hx hb dX11_bars_171 (by decide) ?_
          refine lv_iand hx hb dX11_bars_172 ?_
          refine lv_iconst (v := 1) hx hb dX11_bars_173 (by decide) ?_
          replace hf := bd_so hf
          obtain ⟨⟨x44, x45, S46⟩, h47, hf⟩ := hf
          dsimp only at hf
          have J48 : ∀ (H : Heap) (locs : List Loc) (ls : Array Slot), Ww E S46 s H locs → lv_has ls 10 [(0, .ref (E.ad 60)), (1, .int v1), (2, .int v2), (3, .int v3), (4, .int v4), (5, .int x44), (6, .int v6), (7, .int x45), (8, .int v8)] → W p l e rm_X11_bars s m args below meth c H locs 0 0 Q (F0 m 258 ls []) := by
            intro H locs ls hW hl
            refine lv_iinc (v := (v8 + 1)) (lv' := [(8, .int (v8 + 1)), (0, .ref (E.ad 60)), (1, .int v1), (2, .int v2), (3, .int v3), (4, .int v4), (5, .int x44), (6, .int v6), (7, .int x45)]) hx hb dX11_bars_258 hl (k := 8) rfl rfl (by decide) rfl (fun ls hl => ?_)
            refine lv_goto (tgt := 153) hx hb dX11_bars_261 (by decide) ?_
            exact ih _ _ _ _ _ _ _ hW (lv_sub hl [1, 2, 3, 4, 5, 6, 7, 8, 0] rfl) hf kE
          clear hf
          have hf := h47
          clear h47
          refine lv_icmp_ne (tgt := 258) hx hb dX11_bars_174 (by decide) (fun c43 => ?_) (fun c43 => ?_)
          · replace hf := iff_ hf c43
            obtain ⟨rfl, rfl, rfl⟩ := so3 hf
            exact J48 _ _ _ hW (lv_sub hl [0, 1, 2, 3, 4, 5, 6, 7, 8] rfl)
          · replace hf := ift_ hf c43
            refine lv_aload_n hx hb dX11_bars_177 rfl (lv_at hl 0 rfl) ?_
            refine g_get (ci := 11) (k := 3) (val := .ref (E.ad 64)) C g_us hW rfl rfl rfl (in_sid _ rfl) (by decide) f_RX11_20 rfl dX11_bars_178 ?_
            refine lv_iload hx hb dX11_bars_181 (lv_at hl 8 rfl) ?_
            refine lv_iload_n hx hb dX11_bars_183 rfl (lv_at hl 3 rfl) ?_
            replace hf := bd_so hf
            obtain ⟨x50, h51, hf⟩ := hf
            have J52 : ∀ (H : Heap) (locs : List Loc) (ls : Array Slot), Ww E S s H locs → lv_has ls 10 [(0, .ref (E.ad 60)), (1, .int v1), (2, .int v2), (3, .int v3), (4, .int v4), (6, .int v6), (7, .int v7), (8, .int v8)] → W p l e rm_X11_bars s m args below meth c H locs 0 0 Q (F0 m 208 ls [.int x50, .int v8, .ref (E.ad 64)]) := by
              intro H locs ls hW hl
              replace hf := bd_so hf
              obtain ⟨S53, h54, hf⟩ := hf
              refine g_iast C hW h54 dX11_bars_208 (fun H locs hW => ?_)
              refine lv_aload_n hx hb dX11_bars_209 rfl (lv_at hl 0 rfl) ?_
              refine lv_iload hx hb dX11_bars_210 (lv_at hl 7 rfl) ?_
              refine lv_iload hx hb dX11_bars_212 (lv_at hl 4 rfl) ?_
              replace hf := bd_so hf
              obtain ⟨x56, h55, hf⟩ := hf
              refine g_callVi (ci := 11) (As := [.int v8, .int v4]) (rest := []) C g_us hW hl.1 (c_X11_wireOf l E S53 v8 v4 _ h55) rfl rfl rfl (in_sid _ rfl) k_RX11_96 rfl ⟨rfl, rfl⟩ ⟨Nat.le_of_ble_eq_true rfl, Nat.le_of_ble_eq_true rfl⟩ ⟨Nat.zero_le _, Nat.zero_le _⟩ _ rfl (Nat.le_of_ble_eq_true rfl) dX11_bars_214 (fun H locs hW => ?_)
              refine lv_aload_n hx hb dX11_bars_217 rfl (lv_at hl 0 rfl) ?_
              refine g_get (ci := 11) (k := 3) (val := .ref (E.ad 64)) C g_us hW rfl rfl rfl (in_sid _ rfl) (by decide) f_RX11_20 rfl dX11_bars_218 ?_
              refine lv_iload hx hb dX11_bars_221 (lv_at hl 7 rfl) ?_
              replace hf := bd_so hf
              obtain ⟨x57, h58, hf⟩ := hf
              refine g_iald C hW h58 dX11_bars_223 ?_
              refine lv_isub hx hb dX11_bars_224 ?_
              refine lv_istore (lv' := [(9, .int (x56 - x57)), (0, .ref (E.ad 60)), (1, .int v1), (2, .int v2), (3, .int v3), (4, .int v4), (6, .int v6), (7, .int v7), (8, .int v8)]) hx hb dX11_bars_225 hl (by decide) rfl (fun ls hl => ?_)
              refine lv_iload hx hb dX11_bars_227 (lv_at hl 7 rfl) ?_
              refine lv_sipush (v := 5000) hx hb dX11_bars_229 (by decide) ?_
              replace hf := bd_so hf
              obtain ⟨x60, h61, hf⟩ := hf
              have J62 : ∀ (H : Heap) (locs : List Loc) (ls : Array Slot), Ww E S53 s H locs → lv_has ls 10 [(0, .ref (E.ad 60)), (1, .int v1), (2, .int v2), (3, .int v3), (4, .int v4), (6, .int v6), (8, .int v8), (9, .int (x56 - x57))] → W p l e rm_X11_bars s m args below meth c H locs 0 0 Q (F0 m 242 ls [.int x60]) := by
                intro H locs ls hW hl
                refine lv_istore (lv' := [(7, .int x60), (0, .ref (E.ad 60)), (1, .int v1), (2, .int v2), (3, .int v3), (4, .int v4), (6, .int v6), (8, .int v8), (9, .int (x56 - x57))]) hx hb dX11_bars_242 hl (by decide) rfl (fun ls hl => ?_)
                refine lv_iload hx hb dX11_bars_244 (lv_at hl 8 rfl) ?_
                refine lv_iload hx hb dX11_bars_246 (lv_at hl 0 rfl) ?_
                replace hf := bd_so hf
                obtain ⟨x64, h65, hf⟩ := hf
                have J66 : ∀ (H : Heap) (locs : List Loc) (ls : Array Slot), Ww E S53 s H locs → lv_has ls 10 [(0, .ref (E.ad 60)), (1, .int v1), (2, .int v2), (3, .int v3), (4, .int v4), (6, .int v6), (7, .int x60), (8, .int v8)] → W p l e rm_X11_bars s m args below meth c H locs 0 0 Q (F0 m 256 ls [.int x64]) := by
                  intro H locs ls hW hl
                  refine lv_istore (lv' := [(5, .int x64), (0, .ref (E.ad 60)), (1, .int v1), (2, .int v2), (3, .int v3), (4, .int v4), (6, .int v6), (7, .int x60), (8, .int v8)]) hx hb dX11_bars_256 hl (by decide) rfl (fun ls hl => ?_)
                  obtain ⟨rfl, rfl, rfl⟩ := so3 hf
                  exact J48 _ _ _ hW (lv_sub hl [1, 2, 3, 4, 5, 0, 6, 7, 8] rfl)
                clear hf
                have hf := h65
                clear h65
                refine lv_icmp_ne (tgt := 255) hx hb dX11_bars_248 (by decide) (fun c63 => ?_) (fun c63 => ?_)
                · replace hf := iff_ hf c63
                  refine lv_iconst (v := 0) hx hb dX11_bars_255 (by decide) ?_
                  obtain rfl := so1 hf
                  exact J66 _ _ _ hW (lv_sub hl [1, 2, 3, 4, 5, 6, 0, 7] rfl)
                · replace hf := ift_ hf c63
                  refine lv_iconst (v := 1) hx hb dX11_bars_251 (by decide) ?_
                  refine lv_goto (tgt := 256) hx hb dX11_bars_252 (by decide) ?_
                  obtain rfl := so1 hf
                  exact J66 _ _ _ hW (lv_sub hl [1, 2, 3, 4, 5, 6, 0, 7] rfl)
              clear hf
              have hf := h61
              clear h61
              refine lv_icmp_ne (tgt := 240) hx hb dX11_bars_232 (by decide) (fun c59 => ?_) (fun c59 => ?_)
              · replace hf := iff_ hf c59
                refine lv_iload hx hb dX11_bars_240 (lv_at hl 7 rfl) ?_
                obtain rfl := so1 hf
                exact J62 _ _ _ hW (lv_sub hl [1, 2, 3, 4, 5, 6, 8, 0] rfl)
              · replace hf := ift_ hf c59
                refine lv_iload hx hb dX11_bars_235 (lv_at hl 0 rfl) ?_
                refine lv_goto (tgt := 242) hx hb dX11_bars_237 (by decide) ?_
                obtain rfl := so1 hf
                exact J62 _ _ _ hW (lv_sub hl [1, 2, 3, 4, 5, 6, 8, 0] rfl)
            clear hf
            have hf := h51
            clear h51
            refine lv_if_ne (tgt := 201) hx hb dX11_bars_184 (by decide) (fun c49 => ?_) (fun c49 => ?_)
            · replace hf := iff_ hf c49
              refine lv_aload_n hx hb dX11_bars_201 rfl (lv_at hl 0 rfl) ?_
              refine g_get (ci := 11) (k := 3) (val := .ref (E.ad 64)) C g_us hW rfl rfl rfl (in_sid _ rfl) (by decide) f_RX11_20 rfl dX11_bars_202 ?_
              refine lv_iload hx hb dX11_bars_205 (lv_at hl 8 rfl) ?_
              replace hf := bd_so hf
              obtain ⟨x67, h68, hf⟩ := hf
              refine g_iald C hW h68 dX11_bars_207 ?_
              obtain rfl := so1 hf
              exact J52 _ _ _ hW (lv_sub hl [0, 1, 2, 3, 4, 6, 7, 8] rfl)
            · replace hf := ift_ hf c49
              refine lv_aload_n hx hb dX11_bars_187 rfl (lv_at hl 0 rfl) ?_
              refine lv_iload hx hb dX11_bars_188 (lv_at hl 8 rfl) ?_
              refine lv_iload hx hb dX11_bars_190 (lv_at hl 4 rfl) ?_
              replace hf := bd_so hf
              obtain ⟨x70, h69, hf⟩ := hf
              refine g_callVi (ci := 11) (As := [.int v8, .int v4]) (rest := [.int v8, .ref (E.ad 64)]) C g_us hW hl.1 (c_X11_wireOf l E S v8 v4 _ h69) rfl rfl rfl (in_sid _ rfl) k_RX11_96 rfl ⟨rfl, rfl⟩ ⟨Nat.le_of_ble_eq_true rfl, Nat.le_of_ble_eq_true rfl⟩ ⟨Nat.zero_le _, Nat.zero_le _⟩ _ rfl (Nat.le_of_ble_eq_true rfl) dX11_bars_192 (fun H locs hW => ?_)
              refine lv_iload hx hb dX11_bars_195 (lv_at hl 6 rfl) ?_
              refine lv_isub hx hb dX11_bars_197 ?_
              refine lv_goto (tgt := 208) hx hb dX11_bars_198 (by decide) ?_
              obtain rfl := so1 hf
              exact J52 _ _ _ hW (lv_sub hl [0, 1, 2, 3, 4, 6, 7, 8] rfl)
  have X11_bars_L5_c : ∀ (v1 : Int32) (v2 : Int32) (res : (St) ⊕ (Int32 × St)) (n : Nat) (v3 : Int32) (v4 : Int32) (S : St) (H : Heap) (locs : List Loc) (ls : Array Slot), Ww E S s H locs → lv_has ls 10 [(0, .ref (E.ad 60)), (1, .int v1), (2, .int v2), (3, .int v3), (4, .int v4)] → X11_bars_L5 v1 v2 n v3 v4 S = some res → (∀ (T : St) (H : Heap) (locs : List Loc) (ls : Array Slot), some (.inl T) = some res → Ww E T s H locs → lv_has ls 10 [] → W p l e rm_X11_bars s m args below meth c H locs 0 0 Q (F0 m 281 ls [])) → (∀ (r0 : Int32) (T : St) (H : Heap) (locs : List Loc) (pc : Nat) (ls : Array Slot), some (.inr (r0, T)) = some res → Ww E T s H locs → decode cX11_bars pc = .ok (.ireturn, 1) → W p l e rm_X11_bars s m args below meth c H locs 0 0 Q (F0 m pc ls [.int r0])) → W p l e rm_X11_bars s m args below meth c H locs 0 0 Q (F0 m 5 ls []) := by
    intro v1 v2 res n
    induction n with
    | zero =>
      intro v3 v4 S H locs ls hW hl hf
      cases hf
    | succ n ih =>
      intro v3 v4 S H locs ls hW hl hf kE kR
      unfold X11_bars_L5 at hf
      refine lv_iload hx hb dX11_bars_5 (lv_at hl 4 rfl) ?_
      refine lv_aload_n hx hb dX11_bars_7 rfl (lv_at hl 0 rfl) ?_
      replace hf := bd_so hf
      obtain ⟨x2, h1, hf⟩ := hf
      refine g_callVi (ci := 11) (As := []) (rest := [.int v4]) C g_us hW hl.1 (c_X11_rooms l E S  _ h1) rfl rfl rfl (in_sid _ rfl) k_RX11_82 rfl ⟨rfl, rfl⟩ ⟨Nat.le_of_ble_eq_true rfl, Nat.le_of_ble_eq_true rfl⟩ ⟨Nat.zero_le _, Nat.zero_le _⟩ _ rfl (Nat.le_of_ble_eq_true rfl) dX11_bars_8 (fun H locs hW => ?_)
      refine lv_icmp_ge (tgt := 281) hx hb dX11_bars_11 (by decide) (fun c3 => ?_) (fun c3 => ?_)
      · replace hf := ift_ hf c3
        exact kE _ _ _ _ hf hW (lv_sub hl [] rfl)
      · replace hf := iff_ hf c3
        refine lv_iload_n hx hb dX11_bars_14 rfl (lv_at hl 2 rfl) ?_
        refine lv_if_eq (tgt := 281) hx hb dX11_bars_15 (by decide) (fun c4 => ?_) (fun c4 => ?_)
        · replace hf := ift_ hf c4
          exact kE _ _ _ _ hf hW (lv_sub hl [] rfl)
        · replace hf := iff_ hf c4
          refine lv_iload_n hx hb dX11_bars_18 rfl (lv_at hl 1 rfl) ?_
          refine lv_iload hx hb dX11_bars_19 (lv_at hl 4 rfl) ?_
          refine lv_ishr hx hb dX11_bars_21 ?_
          refine lv_iconst (v := 1) hx hb dX11_bars_22 (by decide) ?_
          refine lv_iand hx hb dX11_bars_23 ?_
          refine lv_iconst (v := 1) hx hb dX11_bars_24 (by decide) ?_
          refine lv_icmp_ne (tgt := 275) hx hb dX11_bars_25 (by decide) (fun c5 => ?_) (fun c5 => ?_)
          · replace hf := iff_ hf c5
            refine lv_iinc (v := (v4 + 1)) (lv' := [(4, .int (v4 + 1)), (0, .ref (E.ad 60)), (1, .int v1), (2, .int v2), (3, .int v3)]) hx hb dX11_bars_275 hl (k := 4) rfl rfl (by decide) rfl (fun ls hl => ?_)
            refine lv_goto (tgt := 5) hx hb dX11_bars_278 (by decide) ?_
            exact ih _ _ _ _ _ _ hW (lv_sub hl [1, 2, 3, 4, 0] rfl) hf kE kR
          · replace hf := ift_ hf c5
            refine lv_aload_n hx hb dX11_bars_28 rfl (lv_at hl 0 rfl) ?_
            refine lv_iload hx hb dX11_bars_29 (lv_at hl 4 rfl) ?_
            replace hf := bd_so hf
            obtain ⟨x7, h6, hf⟩ := hf
            refine g_callVi (ci := 11) (As := [.int v4]) (rest := []) C g_us hW hl.1 (c_X11_isCut l E S v4 _ h6) rfl rfl rfl (in_sid _ rfl) k_RX11_137 rfl ⟨rfl, rfl⟩ ⟨Nat.le_of_ble_eq_true rfl, Nat.le_of_ble_eq_true rfl⟩ ⟨Nat.zero_le _, Nat.zero_le _⟩ _ rfl (Nat.le_of_ble_eq_true rfl) dX11_bars_31 (fun H locs hW => ?_)
            replace hf := bd_so hf
            obtain ⟨x9, h10, hf⟩ := hf
            have J11 : ∀ (H : Heap) (locs : List Loc) (ls : Array Slot), Ww E S s H locs → lv_has ls 10 [(0, .ref (E.ad 60)), (1, .int v1), (2, .int v2), (3, .int v3), (4, .int v4)] → W p l e rm_X11_bars s m args below meth c H locs 0 0 Q (F0 m 42 ls [.int x9]) := by
              intro H locs ls hW hl
              refine lv_istore (lv' := [(5, .int x9), (0, .ref (E.ad 60)), (1, .int v1), (2, .int v2), (3, .int v3), (4, .int v4)]) hx hb dX11_bars_42 hl (by decide) rfl (fun ls hl => ?_)
              refine lv_sipush (v := 1000) hx hb dX11_bars_44 (by decide) ?_
              refine lv_istore (lv' := [(6, .int 1000), (5, .int x9), (0, .ref (E.ad 60)), (1, .int v1), (2, .int v2), (3, .int v3), (4, .int v4)]) hx hb dX11_bars_47 hl (by decide) rfl (fun ls hl => ?_)
              refine lv_iconst (v := 0) hx hb dX11_bars_49 (by decide) ?_
              refine lv_istore (lv' := [(7, .int 0), (6, .int 1000), (5, .int x9), (0, .ref (E.ad 60)), (1, .int v1), (2, .int v2), (3, .int v3), (4, .int v4)]) hx hb dX11_bars_50 hl (by decide) rfl (fun ls hl => ?_)
              replace hf := bd_so hf
              obtain ⟨⟨x36, x37⟩, h38, hf⟩ := hf
              dsimp only at hf
              have J76 : ∀ (H : Heap) (locs : List Loc) (ls : Array Slot), Ww E S s H locs → lv_has ls 10 [(0, .ref (E.ad 60)), (1, .int v1), (2, .int v2), (3, .int v3), (4, .int v4), (5, .int x36), (6, .int x37)] → W p l e rm_X11_bars s m args below meth c H locs 0 0 Q (F0 m 145 ls []) := by
                intro H locs ls hW hl
                refine lv_sipush (v := 5000) hx hb dX11_bars_145 (by decide) ?_
                refine lv_istore (lv' := [(7, .int 5000), (0, .ref (E.ad 60)), (1, .int v1), (2, .int v2), (3, .int v3), (4, .int v4), (5, .int x36), (6, .int x37)]) hx hb dX11_bars_148 hl (by decide) rfl (fun ls hl => ?_)
                refine lv_iconst (v := 0) hx hb dX11_bars_150 (by decide) ?_
                refine lv_istore (lv' := [(8, .int 0), (7, .int 5000), (0, .ref (E.ad 60)), (1, .int v1), (2, .int v2), (3, .int v3), (4, .int v4), (5, .int x36), (6, .int x37)]) hx hb dX11_bars_151 hl (by decide) rfl (fun ls hl => ?_)
                replace hf := bd_so hf
                obtain ⟨⟨x71, S72⟩, h73, hf⟩ := hf
                dsimp only at hf
                have J75 : ∀ (H : Heap) (locs : List Loc) (ls : Array Slot), Ww E S72 s H locs → lv_has ls 10 [(0, .ref (E.ad 60)), (1, .int v1), (2, .int v2), (3, .int v3), (4, .int v4), (5, .int x71)] → W p l e rm_X11_bars s m args below meth c H locs 0 0 Q (F0 m 264 ls []) := by
                  intro H locs ls hW hl
                  refine lv_iload hx hb dX11_bars_264 (lv_at hl 5 rfl) ?_
                  refine lv_if_ne (tgt := 272) hx hb dX11_bars_266 (by decide) (fun c74 => ?_) (fun c74 => ?_)
                  · replace hf := iff_ hf c74
                    refine lv_iinc (v := (v3 + 1)) (lv' := [(3, .int (v3 + 1)), (0, .ref (E.ad 60)), (1, .int v1), (2, .int v2), (4, .int v4), (5, .int x71)]) hx hb dX11_bars_272 hl (k := 3) rfl rfl (by decide) rfl (fun ls hl => ?_)
                    refine lv_iinc (v := (v4 + 1)) (lv' := [(4, .int (v4 + 1)), (3, .int (v3 + 1)), (0, .ref (E.ad 60)), (1, .int v1), (2, .int v2), (5, .int x71)]) hx hb dX11_bars_275 hl (k := 4) rfl rfl (by decide) rfl (fun ls hl => ?_)
                    refine lv_goto (tgt := 5) hx hb dX11_bars_278 (by decide) ?_
                    exact ih _ _ _ _ _ _ hW (lv_sub hl [2, 3, 4, 1, 0] rfl) hf kE kR
                  · replace hf := ift_ hf c74
                    refine lv_iload hx hb dX11_bars_269 (lv_at hl 4 rfl) ?_
                    exact kR _ _ _ _ _ _ hf hW dX11_bars_271
                exact X11_bars_L153_c _ _ _ _ _ _ FU _ _ _ _ _ _ _ hW (lv_sub hl [2, 3, 4, 5, 6, 7, 8, 1, 0] rfl) h73 (fun _ _ H locs ls e hW hl => by cases e; exact J75 H locs ls hW hl)
              exact X11_bars_L52_c _ _ _ _ _ _ FU _ _ _ _ _ _ hW (lv_sub hl [3, 4, 5, 6, 7, 2, 1, 0] rfl) h38 (fun _ _ H locs ls e hW hl => by cases e; exact J76 H locs ls hW hl)
            clear hf
            have hf := h10
            clear h10
            refine lv_if_ne (tgt := 41) hx hb dX11_bars_34 (by decide) (fun c8 => ?_) (fun c8 => ?_)
            · replace hf := iff_ hf c8
              refine lv_iconst (v := 0) hx hb dX11_bars_41 (by decide) ?_
              obtain rfl := so1 hf
              exact J11 _ _ _ hW (lv_sub hl [0, 1, 2, 3, 4] rfl)
            · replace hf := ift_ hf c8
              refine lv_iconst (v := 1) hx hb dX11_bars_37 (by decide) ?_
              refine lv_goto (tgt := 42) hx hb dX11_bars_38 (by decide) ?_
              obtain rfl := so1 hf
              exact J11 _ _ _ hW (lv_sub hl [0, 1, 2, 3, 4] rfl)
  unfold X11_bars at hf
  refine lv_iconst (v := 0) hx hb dX11_bars_0 (by decide) ?_
  refine lv_istore_n (lv' := [(3, .int 0), (0, .ref (E.ad 60)), (1, .int a1), (2, .int a2)]) hx hb dX11_bars_1 rfl hl (by decide) rfl (fun ls hl => ?_)
  refine lv_iconst (v := 0) hx hb dX11_bars_2 (by decide) ?_
  refine lv_istore (lv' := [(4, .int 0), (3, .int 0), (0, .ref (E.ad 60)), (1, .int a1), (2, .int a2)]) hx hb dX11_bars_3 hl (by decide) rfl (fun ls hl => ?_)
  replace hf := bd_so hf
  obtain ⟨t, h78, hf⟩ := hf
  rcases t with S77 | ⟨x80, S81⟩
  · dsimp only at hf
    have J79 : ∀ (H : Heap) (locs : List Loc) (ls : Array Slot), Ww E S77 s H locs → lv_has ls 10 [] → W p l e rm_X11_bars s m args below meth c H locs 0 0 Q (F0 m 281 ls []) := by
      intro H locs ls hW hl
      refine lv_bipush (v := (-4)) hx hb dX11_bars_281 (by decide) ?_
      obtain ⟨rfl, rfl⟩ := so2 hf
      exact kR _ _ _ _ hW dX11_bars_283
    exact X11_bars_L5_c _ _ _ FU _ _ _ _ _ _ hW (lv_sub hl [2, 3, 4, 1, 0] rfl) h78 (fun _ H locs ls e hW hl => by cases e; exact J79 H locs ls hW hl) (fun _ _ H locs pc ls e hW dd => by cases e)
  · dsimp only at hf
    refine X11_bars_L5_c _ _ _ FU _ _ _ _ _ _ hW (lv_sub hl [2, 3, 4, 1, 0] rfl) h78 (fun _ H locs ls e hW hl => by cases e) (fun _ _ H locs pc ls e hW dd => ?_)
    cases e
    obtain ⟨rfl, rfl⟩ := so2 hf
    exact kR _ _ _ _ hW dd

abbrev rm_X11_together : Room := { frames := 4, cells := 0, slots := 0, locals := 132 }
set_option maxHeartbeats 4000000 in
set_option maxRecDepth 100000 in
theorem c_X11_together (l : Launch) (E : En) (S : St) (a1 : Int32) (a2 : Int32) (r : Int32) (S1 : St) (hf : X11_together S a1 a2 = some (r, S1)) : Mi l E yX11_together cX11_together 5 (some .int) rm_X11_together [.ref (E.ad 60), .int a1, .int a2] S r S1 := by
  refine g_startI (cc := cX11_together) (n := 5) (by decide) (Nat.le_of_ble_eq_true rfl) ?_
  intro p e s m args below meth c Q H locs C kR hW ls hl
  obtain ⟨⟨hx, hb, hml, hown, hts⟩, hK, hT⟩ := id C
  have hl : lv_has ls 5 [(0, .ref (E.ad 60)), (1, .int a1), (2, .int a2)] := hl
  unfold X11_together at hf
  refine lv_iload_n hx hb dX11_together_0 rfl (lv_at hl 1 rfl) ?_
  refine lv_i2l (v := (a1 : Int32).toInt64) hx hb dX11_together_1 rfl ?_
  refine lv_lconst (v := 1) hx hb dX11_together_2 (by decide) ?_
  refine lv_iconst (v := 1) hx hb dX11_together_3 (by decide) ?_
  refine lv_aload_n hx hb dX11_together_4 rfl (lv_at hl 0 rfl) ?_
  replace hf := bd_so hf
  obtain ⟨x2, h1, hf⟩ := hf
  refine g_callVi (ci := 11) (As := []) (rest := [.int 1, .long 1, .long ((a1 : Int32).toInt64)]) C g_us hW hl.1 (c_X11_rooms l E S  _ h1) rfl rfl rfl (in_sid _ rfl) k_RX11_82 rfl ⟨rfl, rfl⟩ ⟨Nat.le_of_ble_eq_true rfl, Nat.le_of_ble_eq_true rfl⟩ ⟨Nat.zero_le _, Nat.zero_le _⟩ _ rfl (Nat.le_of_ble_eq_true rfl) dX11_together_5 (fun H locs hW => ?_)
  refine lv_ishl hx hb dX11_together_8 ?_
  refine lv_iconst (v := 1) hx hb dX11_together_9 (by decide) ?_
  refine lv_isub hx hb dX11_together_10 ?_
  refine lv_i2l (v := (((1 <<< (x2 &&& 31)) - 1) : Int32).toInt64) hx hb dX11_together_11 rfl ?_
  replace hf := bd_so hf
  obtain ⟨x4, h3, hf⟩ := hf
  refine g_callSi (As := [.long ((a1 : Int32).toInt64), .long 1, .long ((((1 <<< (x2 &&& 31)) - 1) : Int32).toInt64)]) (rest := []) C g_us hW hl.1 (c_X11_in l E S ((a1 : Int32).toInt64) 1 ((((1 <<< (x2 &&& 31)) - 1) : Int32).toInt64) _ h3) k_RX11_72 rfl ⟨rfl, rfl⟩ ⟨Nat.le_of_ble_eq_true rfl, Nat.le_of_ble_eq_true rfl⟩ ⟨Nat.zero_le _, Nat.zero_le _⟩ _ rfl (Nat.le_of_ble_eq_true rfl) dX11_together_12 (fun H locs hW => ?_)
  refine lv_if_eq (tgt := 44) hx hb dX11_together_15 (by decide) (fun c5 => ?_) (fun c5 => ?_)
  · replace hf := ift_ hf c5
    refine lv_iconst (v := (-1)) hx hb dX11_together_44 (by decide) ?_
    obtain ⟨rfl, rfl⟩ := so2 hf
    exact kR _ _ _ _ hW dX11_together_45
  · replace hf := iff_ hf c5
    refine lv_iload_n hx hb dX11_together_18 rfl (lv_at hl 2 rfl) ?_
    refine lv_i2l (v := (a2 : Int32).toInt64) hx hb dX11_together_19 rfl ?_
    refine lv_lconst (v := 0) hx hb dX11_together_20 (by decide) ?_
    refine lv_ldc2 hx hb hown (hts _ (g_us _ q_RX11_140)) dX11_together_21 ?_
    replace hf := bd_so hf
    obtain ⟨x7, h6, hf⟩ := hf
    refine g_callSi (As := [.long ((a2 : Int32).toInt64), .long 0, .long 8]) (rest := []) C g_us hW hl.1 (c_X11_in l E S ((a2 : Int32).toInt64) 0 8 _ h6) k_RX11_72 rfl ⟨rfl, rfl⟩ ⟨Nat.le_of_ble_eq_true rfl, Nat.le_of_ble_eq_true rfl⟩ ⟨Nat.zero_le _, Nat.zero_le _⟩ _ rfl (Nat.le_of_ble_eq_true rfl) dX11_together_24 (fun H locs hW => ?_)
    refine lv_if_eq (tgt := 44) hx hb dX11_together_27 (by decide) (fun c8 => ?_) (fun c8 => ?_)
    · replace hf := ift_ hf c8
      refine lv_iconst (v := (-1)) hx hb dX11_together_44 (by decide) ?_
      obtain ⟨rfl, rfl⟩ := so2 hf
      exact kR _ _ _ _ hW dX11_together_45
    · replace hf := iff_ hf c8
      refine lv_iload_n hx hb dX11_together_30 rfl (lv_at hl 2 rfl) ?_
      refine lv_bipush (v := 8) hx hb dX11_together_31 (by decide) ?_
      refine lv_icmp_ge (tgt := 46) hx hb dX11_together_33 (by decide) (fun c9 => ?_) (fun c9 => ?_)
      · replace hf := ift_ hf c9
        refine lv_aload_n hx hb dX11_together_46 rfl (lv_at hl 0 rfl) ?_
        replace hf := bd_so hf
        obtain ⟨x11, h10, hf⟩ := hf
        refine g_callVi (ci := 11) (As := []) (rest := []) C g_us hW hl.1 (c_X11_singers l E S  _ h10) rfl rfl rfl (in_sid _ rfl) k_RX11_126 rfl ⟨rfl, rfl⟩ ⟨Nat.le_of_ble_eq_true rfl, Nat.le_of_ble_eq_true rfl⟩ ⟨Nat.zero_le _, Nat.zero_le _⟩ _ rfl (Nat.le_of_ble_eq_true rfl) dX11_together_47 (fun H locs hW => ?_)
        refine lv_iload_n hx hb dX11_together_50 rfl (lv_at hl 1 rfl) ?_
        refine lv_iconst (v := (-1)) hx hb dX11_together_51 (by decide) ?_
        refine lv_ixor hx hb dX11_together_52 ?_
        refine lv_iand hx hb dX11_together_53 ?_
        refine lv_istore_n (lv' := [(3, .int (x11 &&& (a1 ^^^ (-1)))), (0, .ref (E.ad 60)), (1, .int a1), (2, .int a2)]) hx hb dX11_together_54 rfl hl (by decide) rfl (fun ls hl => ?_)
        refine lv_iload_n hx hb dX11_together_55 rfl (lv_at hl 3 rfl) ?_
        refine lv_bipush (v := 8) hx hb dX11_together_56 (by decide) ?_
        refine lv_icmp_ge (tgt := 72) hx hb dX11_together_58 (by decide) (fun c12 => ?_) (fun c12 => ?_)
        · replace hf := ift_ hf c12
          refine lv_aload_n hx hb dX11_together_72 rfl (lv_at hl 1 rfl) ?_
          refine lv_iload_n hx hb dX11_together_73 rfl (lv_at hl 2 rfl) ?_
          refine lv_iload_n hx hb dX11_together_74 rfl (lv_at hl 0 rfl) ?_
          replace hf := bd_so hf
          obtain ⟨⟨x14, S15⟩, h13, hf⟩ := hf
          dsimp only at hf
          refine g_callVi (ci := 11) (As := [.int a1, .int (x11 &&& (a1 ^^^ (-1)))]) (rest := []) C g_us hW hl.1 (c_X11_bars l E S a1 (x11 &&& (a1 ^^^ (-1))) _ _ h13) rfl rfl rfl (in_sid _ rfl) k_RX11_142 rfl ⟨rfl, rfl⟩ ⟨Nat.le_of_ble_eq_true rfl, Nat.le_of_ble_eq_true rfl⟩ ⟨Nat.zero_le _, Nat.zero_le _⟩ _ rfl (Nat.le_of_ble_eq_true rfl) dX11_together_75 (fun H locs hW => ?_)
          refine lv_istore (lv' := [(4, .int x14), (3, .int (x11 &&& (a1 ^^^ (-1)))), (0, .ref (E.ad 60)), (1, .int a1), (2, .int a2)]) hx hb dX11_together_78 hl (by decide) rfl (fun ls hl => ?_)
          refine lv_iload_n hx hb dX11_together_80 rfl (lv_at hl 4 rfl) ?_
          refine lv_bipush (v := 8) hx hb dX11_together_81 (by decide) ?_
          refine lv_icmp_ne (tgt := 91) hx hb dX11_together_83 (by decide) (fun c16 => ?_) (fun c16 => ?_)
          · replace hf := iff_ hf c16
            refine lv_iload hx hb dX11_together_91 (lv_at hl 0 rfl) ?_
            refine lv_if_ge (tgt := 105) hx hb dX11_together_93 (by decide) (fun c17 => ?_) (fun c17 => ?_)
            · replace hf := ift_ hf c17
              refine lv_bipush (v := (-4)) hx hb dX11_together_105 (by decide) ?_
              obtain ⟨rfl, rfl⟩ := so2 hf
              exact kR _ _ _ _ hW dX11_together_107
            · replace hf := iff_ hf c17
              refine lv_aload_n hx hb dX11_together_96 rfl (lv_at hl 2 rfl) ?_
              refine g_get (ci := 11) (k := 3) (val := .ref (E.ad 64)) C g_us hW rfl rfl rfl (in_sid _ rfl) (by decide) f_RX11_20 rfl dX11_together_97 ?_
              refine lv_iload_n hx hb dX11_together_100 rfl (lv_at hl 4 rfl) ?_
              replace hf := bd_so hf
              obtain ⟨x18, h19, hf⟩ := hf
              refine g_iald C hW h19 dX11_together_101 ?_
              refine lv_goto (tgt := 107) hx hb dX11_together_102 (by decide) ?_
              obtain ⟨rfl, rfl⟩ := so2 hf
              exact kR _ _ _ _ hW dX11_together_107
          · replace hf := ift_ hf c16
            refine lv_iload hx hb dX11_together_86 (lv_at hl 0 rfl) ?_
            refine lv_goto (tgt := 107) hx hb dX11_together_88 (by decide) ?_
            obtain ⟨rfl, rfl⟩ := so2 hf
            exact kR _ _ _ _ hW dX11_together_107
        · replace hf := iff_ hf c12
          refine lv_iload_n hx hb dX11_together_61 rfl (lv_at hl 0 rfl) ?_
          refine lv_iload_n hx hb dX11_together_62 rfl (lv_at hl 3 rfl) ?_
          refine lv_ishr hx hb dX11_together_63 ?_
          refine lv_iconst (v := 1) hx hb dX11_together_64 (by decide) ?_
          refine lv_iand hx hb dX11_together_65 ?_
          refine lv_if_ne (tgt := 72) hx hb dX11_together_66 (by decide) (fun c20 => ?_) (fun c20 => ?_)
          · replace hf := iff_ hf c20
            refine lv_aload_n hx hb dX11_together_72 rfl (lv_at hl 1 rfl) ?_
            refine lv_iload_n hx hb dX11_together_73 rfl (lv_at hl 2 rfl) ?_
            refine lv_iload_n hx hb dX11_together_74 rfl (lv_at hl 0 rfl) ?_
            replace hf := bd_so hf
            obtain ⟨⟨x22, S23⟩, h21, hf⟩ := hf
            dsimp only at hf
            refine g_callVi (ci := 11) (As := [.int a1, .int (x11 &&& (a1 ^^^ (-1)))]) (rest := []) C g_us hW hl.1 (c_X11_bars l E S a1 (x11 &&& (a1 ^^^ (-1))) _ _ h21) rfl rfl rfl (in_sid _ rfl) k_RX11_142 rfl ⟨rfl, rfl⟩ ⟨Nat.le_of_ble_eq_true rfl, Nat.le_of_ble_eq_true rfl⟩ ⟨Nat.zero_le _, Nat.zero_le _⟩ _ rfl (Nat.le_of_ble_eq_true rfl) dX11_together_75 (fun H locs hW => ?_)
            refine lv_istore (lv' := [(4, .int x22), (3, .int (x11 &&& (a1 ^^^ (-1)))), (0, .ref (E.ad 60)), (1, .int a1), (2, .int a2)]) hx hb dX11_together_78 hl (by decide) rfl (fun ls hl => ?_)
            refine lv_iload_n hx hb dX11_together_80 rfl (lv_at hl 4 rfl) ?_
            refine lv_bipush (v := 8) hx hb dX11_together_81 (by decide) ?_
            refine lv_icmp_ne (tgt := 91) hx hb dX11_together_83 (by decide) (fun c24 => ?_) (fun c24 => ?_)
            · replace hf := iff_ hf c24
              refine lv_iload hx hb dX11_together_91 (lv_at hl 0 rfl) ?_
              refine lv_if_ge (tgt := 105) hx hb dX11_together_93 (by decide) (fun c25 => ?_) (fun c25 => ?_)
              · replace hf := ift_ hf c25
                refine lv_bipush (v := (-4)) hx hb dX11_together_105 (by decide) ?_
                obtain ⟨rfl, rfl⟩ := so2 hf
                exact kR _ _ _ _ hW dX11_together_107
              · replace hf := iff_ hf c25
                refine lv_aload_n hx hb dX11_together_96 rfl (lv_at hl 2 rfl) ?_
                refine g_get (ci := 11) (k := 3) (val := .ref (E.ad 64)) C g_us hW rfl rfl rfl (in_sid _ rfl) (by decide) f_RX11_20 rfl dX11_together_97 ?_
                refine lv_iload_n hx hb dX11_together_100 rfl (lv_at hl 4 rfl) ?_
                replace hf := bd_so hf
                obtain ⟨x26, h27, hf⟩ := hf
                refine g_iald C hW h27 dX11_together_101 ?_
                refine lv_goto (tgt := 107) hx hb dX11_together_102 (by decide) ?_
                obtain ⟨rfl, rfl⟩ := so2 hf
                exact kR _ _ _ _ hW dX11_together_107
            · replace hf := ift_ hf c24
              refine lv_iload hx hb dX11_together_86 (lv_at hl 0 rfl) ?_
              refine lv_goto (tgt := 107) hx hb dX11_together_88 (by decide) ?_
              obtain ⟨rfl, rfl⟩ := so2 hf
              exact kR _ _ _ _ hW dX11_together_107
          · replace hf := ift_ hf c20
            refine lv_bipush (v := (-2)) hx hb dX11_together_69 (by decide) ?_
            obtain ⟨rfl, rfl⟩ := so2 hf
            exact kR _ _ _ _ hW dX11_together_71
      · replace hf := iff_ hf c9
        refine lv_aload_n hx hb dX11_together_36 rfl (lv_at hl 0 rfl) ?_
        refine lv_iload_n hx hb dX11_together_37 rfl (lv_at hl 2 rfl) ?_
        replace hf := bd_so hf
        obtain ⟨x29, h28, hf⟩ := hf
        refine g_callVi (ci := 11) (As := [.int a2]) (rest := []) C g_us hW hl.1 (c_X11_isRoom l E S a2 _ h28) rfl rfl rfl (in_sid _ rfl) k_RX11_86 rfl ⟨rfl, rfl⟩ ⟨Nat.le_of_ble_eq_true rfl, Nat.le_of_ble_eq_true rfl⟩ ⟨Nat.zero_le _, Nat.zero_le _⟩ _ rfl (Nat.le_of_ble_eq_true rfl) dX11_together_38 (fun H locs hW => ?_)
        refine lv_if_ne (tgt := 46) hx hb dX11_together_41 (by decide) (fun c30 => ?_) (fun c30 => ?_)
        · replace hf := iff_ hf c30
          refine lv_aload_n hx hb dX11_together_46 rfl (lv_at hl 0 rfl) ?_
          replace hf := bd_so hf
          obtain ⟨x32, h31, hf⟩ := hf
          refine g_callVi (ci := 11) (As := []) (rest := []) C g_us hW hl.1 (c_X11_singers l E S  _ h31) rfl rfl rfl (in_sid _ rfl) k_RX11_126 rfl ⟨rfl, rfl⟩ ⟨Nat.le_of_ble_eq_true rfl, Nat.le_of_ble_eq_true rfl⟩ ⟨Nat.zero_le _, Nat.zero_le _⟩ _ rfl (Nat.le_of_ble_eq_true rfl) dX11_together_47 (fun H locs hW => ?_)
          refine lv_iload_n hx hb dX11_together_50 rfl (lv_at hl 1 rfl) ?_
          refine lv_iconst (v := (-1)) hx hb dX11_together_51 (by decide) ?_
          refine lv_ixor hx hb dX11_together_52 ?_
          refine lv_iand hx hb dX11_together_53 ?_
          refine lv_istore_n (lv' := [(3, .int (x32 &&& (a1 ^^^ (-1)))), (0, .ref (E.ad 60)), (1, .int a1), (2, .int a2)]) hx hb dX11_together_54 rfl hl (by decide) rfl (fun ls hl => ?_)
          refine lv_iload_n hx hb dX11_together_55 rfl (lv_at hl 3 rfl) ?_
          refine lv_bipush (v := 8) hx hb dX11_together_56 (by decide) ?_
          refine lv_icmp_ge (tgt := 72) hx hb dX11_together_58 (by decide) (fun c33 => ?_) (fun c33 => ?_)
          · replace hf := ift_ hf c33
            refine lv_aload_n hx hb dX11_together_72 rfl (lv_at hl 1 rfl) ?_
            refine lv_iload_n hx hb dX11_together_73 rfl (lv_at hl 2 rfl) ?_
            refine lv_iload_n hx hb dX11_together_74 rfl (lv_at hl 0 rfl) ?_
            replace hf := bd_so hf
            obtain ⟨⟨x35, S36⟩, h34, hf⟩ := hf
            dsimp only at hf
            refine g_callVi (ci := 11) (As := [.int a1, .int (x32 &&& (a1 ^^^ (-1)))]) (rest := []) C g_us hW hl.1 (c_X11_bars l E S a1 (x32 &&& (a1 ^^^ (-1))) _ _ h34) rfl rfl rfl (in_sid _ rfl) k_RX11_142 rfl ⟨rfl, rfl⟩ ⟨Nat.le_of_ble_eq_true rfl, Nat.le_of_ble_eq_true rfl⟩ ⟨Nat.zero_le _, Nat.zero_le _⟩ _ rfl (Nat.le_of_ble_eq_true rfl) dX11_together_75 (fun H locs hW => ?_)
            refine lv_istore (lv' := [(4, .int x35), (3, .int (x32 &&& (a1 ^^^ (-1)))), (0, .ref (E.ad 60)), (1, .int a1), (2, .int a2)]) hx hb dX11_together_78 hl (by decide) rfl (fun ls hl => ?_)
            refine lv_iload_n hx hb dX11_together_80 rfl (lv_at hl 4 rfl) ?_
            refine lv_bipush (v := 8) hx hb dX11_together_81 (by decide) ?_
            refine lv_icmp_ne (tgt := 91) hx hb dX11_together_83 (by decide) (fun c37 => ?_) (fun c37 => ?_)
            · replace hf := iff_ hf c37
              refine lv_iload hx hb dX11_together_91 (lv_at hl 0 rfl) ?_
              refine lv_if_ge (tgt := 105) hx hb dX11_together_93 (by decide) (fun c38 => ?_) (fun c38 => ?_)
              · replace hf := ift_ hf c38
                refine lv_bipush (v := (-4)) hx hb dX11_together_105 (by decide) ?_
                obtain ⟨rfl, rfl⟩ := so2 hf
                exact kR _ _ _ _ hW dX11_together_107
              · replace hf := iff_ hf c38
                refine lv_aload_n hx hb dX11_together_96 rfl (lv_at hl 2 rfl) ?_
                refine g_get (ci := 11) (k := 3) (val := .ref (E.ad 64)) C g_us hW rfl rfl rfl (in_sid _ rfl) (by decide) f_RX11_20 rfl dX11_together_97 ?_
                refine lv_iload_n hx hb dX11_together_100 rfl (lv_at hl 4 rfl) ?_
                replace hf := bd_so hf
                obtain ⟨x39, h40, hf⟩ := hf
                refine g_iald C hW h40 dX11_together_101 ?_
                refine lv_goto (tgt := 107) hx hb dX11_together_102 (by decide) ?_
                obtain ⟨rfl, rfl⟩ := so2 hf
                exact kR _ _ _ _ hW dX11_together_107
            · replace hf := ift_ hf c37
              refine lv_iload hx hb dX11_together_86 (lv_at hl 0 rfl) ?_
              refine lv_goto (tgt := 107) hx hb dX11_together_88 (by decide) ?_
              obtain ⟨rfl, rfl⟩ := so2 hf
              exact kR _ _ _ _ hW dX11_together_107
          · replace hf := iff_ hf c33
            refine lv_iload_n hx hb dX11_together_61 rfl (lv_at hl 0 rfl) ?_
            refine lv_iload_n hx hb dX11_together_62 rfl (lv_at hl 3 rfl) ?_
            refine lv_ishr hx hb dX11_together_63 ?_
            refine lv_iconst (v := 1) hx hb dX11_together_64 (by decide) ?_
            refine lv_iand hx hb dX11_together_65 ?_
            refine lv_if_ne (tgt := 72) hx hb dX11_together_66 (by decide) (fun c41 => ?_) (fun c41 => ?_)
            · replace hf := iff_ hf c41
              refine lv_aload_n hx hb dX11_together_72 rfl (lv_at hl 1 rfl) ?_
              refine lv_iload_n hx hb dX11_together_73 rfl (lv_at hl 2 rfl) ?_
              refine lv_iload_n hx hb dX11_together_74 rfl (lv_at hl 0 rfl) ?_
              replace hf := bd_so hf
              obtain ⟨⟨x43, S44⟩, h42, hf⟩ := hf
              dsimp only at hf
              refine g_callVi (ci := 11) (As := [.int a1, .int (x32 &&& (a1 ^^^ (-1)))]) (rest := []) C g_us hW hl.1 (c_X11_bars l E S a1 (x32 &&& (a1 ^^^ (-1))) _ _ h42) rfl rfl rfl (in_sid _ rfl) k_RX11_142 rfl ⟨rfl, rfl⟩ ⟨Nat.le_of_ble_eq_true rfl, Nat.le_of_ble_eq_true rfl⟩ ⟨Nat.zero_le _, Nat.zero_le _⟩ _ rfl (Nat.le_of_ble_eq_true rfl) dX11_together_75 (fun H locs hW => ?_)
              refine lv_istore (lv' := [(4, .int x43), (3, .int (x32 &&& (a1 ^^^ (-1)))), (0, .ref (E.ad 60)), (1, .int a1), (2, .int a2)]) hx hb dX11_together_78 hl (by decide) rfl (fun ls hl => ?_)
              refine lv_iload_n hx hb dX11_together_80 rfl (lv_at hl 4 rfl) ?_
              refine lv_bipush (v := 8) hx hb dX11_together_81 (by decide) ?_
              refine lv_icmp_ne (tgt := 91) hx hb dX11_together_83 (by decide) (fun c45 => ?_) (fun c45 => ?_)
              · replace hf := iff_ hf c45
                refine lv_iload hx hb dX11_together_91 (lv_at hl 0 rfl) ?_
                refine lv_if_ge (tgt := 105) hx hb dX11_together_93 (by decide) (fun c46 => ?_) (fun c46 => ?_)
                · replace hf := ift_ hf c46
                  refine lv_bipush (v := (-4)) hx hb dX11_together_105 (by decide) ?_
                  obtain ⟨rfl, rfl⟩ := so2 hf
                  exact kR _ _ _ _ hW dX11_together_107
                · replace hf := iff_ hf c46
                  refine lv_aload_n hx hb dX11_together_96 rfl (lv_at hl 2 rfl) ?_
                  refine g_get (ci := 11) (k := 3) (val := .ref (E.ad 64)) C g_us hW rfl rfl rfl (in_sid _ rfl) (by decide) f_RX11_20 rfl dX11_together_97 ?_
                  refine lv_iload_n hx hb dX11_together_100 rfl (lv_at hl 4 rfl) ?_
                  replace hf := bd_so hf
                  obtain ⟨x47, h48, hf⟩ := hf
                  refine g_iald C hW h48 dX11_together_101 ?_
                  refine lv_goto (tgt := 107) hx hb dX11_together_102 (by decide) ?_
                  obtain ⟨rfl, rfl⟩ := so2 hf
                  exact kR _ _ _ _ hW dX11_together_107
              · replace hf := ift_ hf c45
                refine lv_iload hx hb dX11_together_86 (lv_at hl 0 rfl) ?_
                refine lv_goto (tgt := 107) hx hb dX11_together_88 (by decide) ?_
                obtain ⟨rfl, rfl⟩ := so2 hf
                exact kR _ _ _ _ hW dX11_together_107
            · replace hf := ift_ hf c41
              refine lv_bipush (v := (-2)) hx hb dX11_together_69 (by decide) ?_
              obtain ⟨rfl, rfl⟩ := so2 hf
              exact kR _ _ _ _ hW dX11_together_71
        · replace hf := ift_ hf c30
          refine lv_iconst (v := (-1)) hx hb dX11_together_44 (by decide) ?_
          obtain ⟨rfl, rfl⟩ := so2 hf
          exact kR _ _ _ _ hW dX11_together_45
