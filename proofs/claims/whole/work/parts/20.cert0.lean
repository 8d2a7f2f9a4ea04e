abbrev rm_X6_value : Room := { frames := 1, cells := 0, slots := 0, locals := 60 }
set_option maxHeartbeats 4000000 in
set_option maxRecDepth 100000 in
theorem c_X6_value (l : Launch) (E : En) (S : St) (a1 : Int32) (a2 : Int32) (r : Int32) (hf : X6_value S a1 a2 = some r) : Mi l E yX6_value cX6_value 3 (some .int) rm_X6_value [.ref (E.ad 2), .int a1, .int a2] S r S := by
  refine g_startI (cc := cX6_value) (n := 3) (by decide) (Nat.le_of_ble_eq_true rfl) ?_
  intro p e s m args below meth c Q H locs C kR hW ls hl
  obtain ⟨⟨hx, hb, hml, hown, hts⟩, hK, hT⟩ := id C
  have hl : lv_has ls 3 [(0, .ref (E.ad 2)), (1, .int a1), (2, .int a2)] := hl
  unfold X6_value at hf
  refine lv_aload_n hx hb dX6_value_0 rfl (lv_at hl 0 rfl) ?_
  refine g_get (ci := 6) (k := 3) (val := .ref (E.ad 3)) C g_us hW rfl rfl rfl (in_sid _ rfl) (by decide) f_RX6_18 rfl dX6_value_1 ?_
  refine lv_iload_n hx hb dX6_value_4 rfl (lv_at hl 1 rfl) ?_
  refine lv_bipush (v := 6) hx hb dX6_value_5 (by decide) ?_
  refine lv_imul hx hb dX6_value_7 ?_
  refine lv_iload_n hx hb dX6_value_8 rfl (lv_at hl 2 rfl) ?_
  refine lv_iadd hx hb dX6_value_9 ?_
  replace hf := bd_so hf
  obtain ⟨x1, h2, hf⟩ := hf
  refine g_iald C hW h2 dX6_value_10 ?_
  obtain rfl := so1 hf
  exact kR _ _ _ _ hW dX6_value_11

abbrev rm_X6_sings : Room := { frames := 2, cells := 0, slots := 0, locals := 82 }
set_option maxHeartbeats 4000000 in
set_option maxRecDepth 100000 in
theorem c_X6_sings (l : Launch) (E : En) (S : St) (a1 : Int32) (r : Int32) (hf : X6_sings S a1 = some r) : Mi l E yX6_sings cX6_sings 2 (some .boolean) rm_X6_sings [.ref (E.ad 2), .int a1] S r S := by
  refine g_startZ (cc := cX6_sings) (n := 2) (by decide) (Nat.le_of_ble_eq_true rfl) ?_
  intro p e s m args below meth c Q H locs C kR hW ls hl
  obtain ⟨⟨hx, hb, hml, hown, hts⟩, hK, hT⟩ := id C
  have hl : lv_has ls 2 [(0, .ref (E.ad 2)), (1, .int a1)] := hl
  unfold X6_sings at hf
  refine lv_aload_n hx hb dX6_sings_0 rfl (lv_at hl 0 rfl) ?_
  refine lv_iload_n hx hb dX6_sings_1 rfl (lv_at hl 1 rfl) ?_
  refine lv_iconst (v := 0) hx hb dX6_sings_2 (by decide) ?_
  replace hf := bd_so hf
  obtain ⟨x2, h1, hf⟩ := hf
  refine g_callVi (ci := 6) (As := [.int a1, .int 0]) (rest := []) C g_us hW hl.1 (c_X6_value l E S a1 0 _ h1) rfl rfl rfl (in_sid _ rfl) k_RX6_44 rfl ⟨rfl, rfl⟩ ⟨Nat.le_of_ble_eq_true rfl, Nat.le_of_ble_eq_true rfl⟩ ⟨Nat.zero_le _, Nat.zero_le _⟩ _ rfl (Nat.le_of_ble_eq_true rfl) dX6_sings_3 (fun H locs hW => ?_)
  refine lv_iconst (v := 4) hx hb dX6_sings_6 (by decide) ?_
  refine lv_icmp_ge (tgt := 14) hx hb dX6_sings_7 (by decide) (fun c3 => ?_) (fun c3 => ?_)
  · replace hf := ift_ hf c3
    refine lv_iconst (v := 0) hx hb dX6_sings_14 (by decide) ?_
    obtain rfl := so1 hf
    exact kR _ _ _ _ hW (Or.inl rfl) dX6_sings_15
  · replace hf := iff_ hf c3
    refine lv_iconst (v := 1) hx hb dX6_sings_10 (by decide) ?_
    refine lv_goto (tgt := 15) hx hb dX6_sings_11 (by decide) ?_
    obtain rfl := so1 hf
    exact kR _ _ _ _ hW (Or.inr rfl) dX6_sings_15

abbrev rm_X6_between : Room := { frames := 1, cells := 0, slots := 0, locals := 60 }
set_option maxHeartbeats 4000000 in
set_option maxRecDepth 100000 in
theorem c_X6_between (l : Launch) (E : En) (S : St) (a1 : Int32) (a2 : Int32) (r : Int32) (hf : X6_between S a1 a2 = some r) : Mi l E yX6_between cX6_between 3 (some .int) rm_X6_between [.ref (E.ad 2), .int a1, .int a2] S r S := by
  refine g_startI (cc := cX6_between) (n := 3) (by decide) (Nat.le_of_ble_eq_true rfl) ?_
  intro p e s m args below meth c Q H locs C kR hW ls hl
  obtain ⟨⟨hx, hb, hml, hown, hts⟩, hK, hT⟩ := id C
  have hl : lv_has ls 3 [(0, .ref (E.ad 2)), (1, .int a1), (2, .int a2)] := hl
  unfold X6_between at hf
  refine lv_aload_n hx hb dX6_between_0 rfl (lv_at hl 0 rfl) ?_
  refine g_get (ci := 6) (k := 4) (val := .ref (E.ad 4)) C g_us hW rfl rfl rfl (in_sid _ rfl) (by decide) f_RX6_22 rfl dX6_between_1 ?_
  refine lv_iload_n hx hb dX6_between_4 rfl (lv_at hl 1 rfl) ?_
  refine lv_bipush (v := 8) hx hb dX6_between_5 (by decide) ?_
  refine lv_imul hx hb dX6_between_7 ?_
  refine lv_iload_n hx hb dX6_between_8 rfl (lv_at hl 2 rfl) ?_
  refine lv_iadd hx hb dX6_between_9 ?_
  replace hf := bd_so hf
  obtain ⟨x1, h2, hf⟩ := hf
  refine g_iald C hW h2 dX6_between_10 ?_
  obtain rfl := so1 hf
  exact kR _ _ _ _ hW dX6_between_11

abbrev rm_X6_take : Room := { frames := 1, cells := 0, slots := 0, locals := 60 }
set_option maxHeartbeats 4000000 in
set_option maxRecDepth 100000 in
theorem c_X6_take (l : Launch) (E : En) (S : St) (a0 : Nat) (a1 : Nat) (S1 : St) (hf : X6_take S a0 a1 = some S1) : Mv l E yX6_take cX6_take 2 none rm_X6_take [.ref (E.ad a0), .ref (E.ad a1)] S S1 := by
  refine g_startV (cc := cX6_take) (n := 2) (by decide) (Nat.le_of_ble_eq_true rfl) ?_
  intro p e s m args below meth c Q H locs C kR hW ls hl
  obtain ⟨⟨hx, hb, hml, hown, hts⟩, hK, hT⟩ := id C
  have hl : lv_has ls 2 [(0, .ref (E.ad a0)), (1, .ref (E.ad a1))] := hl
  unfold X6_take at hf
  refine lv_aload_n hx hb dX6_take_0 rfl (lv_at hl 0 rfl) ?_
  refine lv_aload_n hx hb dX6_take_1 rfl (lv_at hl 1 rfl) ?_
  replace hf := bd_so hf
  obtain ⟨_, h1, hf⟩ := hf
  refine g_get (ci := 6) (k := 0) (val := .int (rI S a1 0)) C g_us hW rfl (if_so h1).1.1 (if_so h1).1.2.1 (if_so h1).1.2.2 (by decide) f_RX6_28 rfl dX6_take_2 ?_
  replace hf := bd_so hf
  obtain ⟨_, h2, hf⟩ := hf
  replace hf := bd_so hf
  obtain ⟨S3, h4, hf⟩ := hf
  refine g_putI (ci := 6) (k := 0) C g_us hW rfl (if_so h2).1.1 (if_so h2).1.2.1 (if_so h2).1.2.2 (by decide) f_RX6_28 rfl rfl rfl h4 dX6_take_5 (fun H locs hW => ?_)
  refine lv_aload_n hx hb dX6_take_8 rfl (lv_at hl 0 rfl) ?_
  refine lv_aload_n hx hb dX6_take_9 rfl (lv_at hl 1 rfl) ?_
  replace hf := bd_so hf
  obtain ⟨_, h5, hf⟩ := hf
  refine g_get (ci := 6) (k := 1) (val := .int (rI S3 a1 1)) C g_us hW rfl (if_so h5).1.1 (if_so h5).1.2.1 (if_so h5).1.2.2 (by decide) f_RX6_9 rfl dX6_take_10 ?_
  replace hf := bd_so hf
  obtain ⟨_, h6, hf⟩ := hf
  replace hf := bd_so hf
  obtain ⟨S7, h8, hf⟩ := hf
  refine g_putI (ci := 6) (k := 1) C g_us hW rfl (if_so h6).1.1 (if_so h6).1.2.1 (if_so h6).1.2.2 (by decide) f_RX6_9 rfl rfl rfl h8 dX6_take_13 (fun H locs hW => ?_)
  refine lv_aload_n hx hb dX6_take_16 rfl (lv_at hl 0 rfl) ?_
  refine lv_aload_n hx hb dX6_take_17 rfl (lv_at hl 1 rfl) ?_
  replace hf := bd_so hf
  obtain ⟨_, h9, hf⟩ := hf
  refine g_get (ci := 6) (k := 2) (val := .int (rI S7 a1 2)) C g_us hW rfl (if_so h9).1.1 (if_so h9).1.2.1 (if_so h9).1.2.2 (by decide) f_RX6_15 rfl dX6_take_18 ?_
  replace hf := bd_so hf
  obtain ⟨_, h10, hf⟩ := hf
  replace hf := bd_so hf
  obtain ⟨S11, h12, hf⟩ := hf
  refine g_putI (ci := 6) (k := 2) C g_us hW rfl (if_so h10).1.1 (if_so h10).1.2.1 (if_so h10).1.2.2 (by decide) f_RX6_15 rfl rfl rfl h12 dX6_take_21 (fun H locs hW => ?_)
  refine lv_aload_n hx hb dX6_take_24 rfl (lv_at hl 1 rfl) ?_
  replace hf := bd_so hf
  obtain ⟨_, h13, hf⟩ := hf
  refine g_get (ci := 6) (k := 3) (val := .ref (E.ad (a1 + 1))) C g_us hW rfl (if_so h13).1.1 (if_so h13).1.2.1 (if_so h13).1.2.2 (by decide) f_RX6_18 rfl dX6_take_25 ?_
  refine lv_iconst (v := 0) hx hb dX6_take_28 (by decide) ?_
  refine lv_aload_n hx hb dX6_take_29 rfl (lv_at hl 0 rfl) ?_
  replace hf := bd_so hf
  obtain ⟨_, h14, hf⟩ := hf
  refine g_get (ci := 6) (k := 3) (val := .ref (E.ad (a0 + 1))) C g_us hW rfl (if_so h14).1.1 (if_so h14).1.2.1 (if_so h14).1.2.2 (by decide) f_RX6_18 rfl dX6_take_30 ?_
  refine lv_iconst (v := 0) hx hb dX6_take_33 (by decide) ?_
  refine lv_aload_n hx hb dX6_take_34 rfl (lv_at hl 0 rfl) ?_
  replace hf := bd_so hf
  obtain ⟨_, h15, hf⟩ := hf
  refine g_get (ci := 6) (k := 3) (val := .ref (E.ad (a0 + 1))) C g_us hW rfl (if_so h15).1.1 (if_so h15).1.2.1 (if_so h15).1.2.2 (by decide) f_RX6_18 rfl dX6_take_35 ?_
  replace hf := bd_so hf
  obtain ⟨x16, h17, hf⟩ := hf
  refine g_alen C hW h17 dX6_take_38 ?_
  replace hf := bd_so hf
  obtain ⟨S18, h19, hf⟩ := hf
  refine g_copyI C g_us hW hl.1 k_RX6_31 (Nat.le_of_ble_eq_true rfl) (Nat.le_of_ble_eq_true rfl) h19 dX6_take_39 (fun H locs hW => ?_)
  refine lv_aload_n hx hb dX6_take_42 rfl (lv_at hl 1 rfl) ?_
  replace hf := bd_so hf
  obtain ⟨_, h20, hf⟩ := hf
  refine g_get (ci := 6) (k := 4) (val := .ref (E.ad (a1 + 2))) C g_us hW rfl (if_so h20).1.1 (if_so h20).1.2.1 (if_so h20).1.2.2 (by decide) f_RX6_22 rfl dX6_take_43 ?_
  refine lv_iconst (v := 0) hx hb dX6_take_46 (by decide) ?_
  refine lv_aload_n hx hb dX6_take_47 rfl (lv_at hl 0 rfl) ?_
  replace hf := bd_so hf
  obtain ⟨_, h21, hf⟩ := hf
  refine g_get (ci := 6) (k := 4) (val := .ref (E.ad (a0 + 2))) C g_us hW rfl (if_so h21).1.1 (if_so h21).1.2.1 (if_so h21).1.2.2 (by decide) f_RX6_22 rfl dX6_take_48 ?_
  refine lv_iconst (v := 0) hx hb dX6_take_51 (by decide) ?_
  refine lv_aload_n hx hb dX6_take_52 rfl (lv_at hl 0 rfl) ?_
  replace hf := bd_so hf
  obtain ⟨_, h22, hf⟩ := hf
  refine g_get (ci := 6) (k := 4) (val := .ref (E.ad (a0 + 2))) C g_us hW rfl (if_so h22).1.1 (if_so h22).1.2.1 (if_so h22).1.2.2 (by decide) f_RX6_22 rfl dX6_take_53 ?_
  replace hf := bd_so hf
  obtain ⟨x23, h24, hf⟩ := hf
  refine g_alen C hW h24 dX6_take_56 ?_
  replace hf := bd_so hf
  obtain ⟨S25, h26, hf⟩ := hf
  refine g_copyI C g_us hW hl.1 k_RX6_31 (Nat.le_of_ble_eq_true rfl) (Nat.le_of_ble_eq_true rfl) h26 dX6_take_57 (fun H locs hW => ?_)
  refine lv_aload_n hx hb dX6_take_60 rfl (lv_at hl 1 rfl) ?_
  replace hf := bd_so hf
  obtain ⟨_, h27, hf⟩ := hf
  refine g_get (ci := 6) (k := 5) (val := .ref (E.ad (a1 + 3))) C g_us hW rfl (if_so h27).1.1 (if_so h27).1.2.1 (if_so h27).1.2.2 (by decide) f_RX6_25 rfl dX6_take_61 ?_
  refine lv_iconst (v := 0) hx hb dX6_take_64 (by decide) ?_
  refine lv_aload_n hx hb dX6_take_65 rfl (lv_at hl 0 rfl) ?_
  replace hf := bd_so hf
  obtain ⟨_, h28, hf⟩ := hf
  refine g_get (ci := 6) (k := 5) (val := .ref (E.ad (a0 + 3))) C g_us hW rfl (if_so h28).1.1 (if_so h28).1.2.1 (if_so h28).1.2.2 (by decide) f_RX6_25 rfl dX6_take_66 ?_
  refine lv_iconst (v := 0) hx hb dX6_take_69 (by decide) ?_
  refine lv_aload_n hx hb dX6_take_70 rfl (lv_at hl 0 rfl) ?_
  replace hf := bd_so hf
  obtain ⟨_, h29, hf⟩ := hf
  refine g_get (ci := 6) (k := 5) (val := .ref (E.ad (a0 + 3))) C g_us hW rfl (if_so h29).1.1 (if_so h29).1.2.1 (if_so h29).1.2.2 (by decide) f_RX6_25 rfl dX6_take_71 ?_
  replace hf := bd_so hf
  obtain ⟨x30, h31, hf⟩ := hf
  refine g_alen C hW h31 dX6_take_74 ?_
  replace hf := bd_so hf
  obtain ⟨S32, h33, hf⟩ := hf
  refine g_copyI C g_us hW hl.1 k_RX6_31 (Nat.le_of_ble_eq_true rfl) (Nat.le_of_ble_eq_true rfl) h33 dX6_take_75 (fun H locs hW => ?_)
  obtain rfl := so1 hf
  exact kR _ _ _ _ hW dX6_take_78

abbrev rm_X5_take : Room := { frames := 1, cells := 0, slots := 0, locals := 60 }
set_option maxHeartbeats 4000000 in
set_option maxRecDepth 100000 in
theorem c_X5_take (l : Launch) (E : En) (S : St) (a0 : Nat) (a1 : Nat) (S1 : St) (hf : X5_take S a0 a1 = some S1) : Mv l E yX5_take cX5_take 2 none rm_X5_take [.ref (E.ad a0), .ref (E.ad a1)] S S1 := by
  refine g_startV (cc := cX5_take) (n := 2) (by decide) (Nat.le_of_ble_eq_true rfl) ?_
  intro p e s m args below meth c Q H locs C kR hW ls hl
  obtain ⟨⟨hx, hb, hml, hown, hts⟩, hK, hT⟩ := id C
  have hl : lv_has ls 2 [(0, .ref (E.ad a0)), (1, .ref (E.ad a1))] := hl
  unfold X5_take at hf
  refine lv_aload_n hx hb dX5_take_0 rfl (lv_at hl 0 rfl) ?_
  refine lv_aload_n hx hb dX5_take_1 rfl (lv_at hl 1 rfl) ?_
  replace hf := bd_so hf
  obtain ⟨_, h1, hf⟩ := hf
  refine g_get (ci := 5) (k := 0) (val := .int (rI S a1 0)) C g_us hW rfl (if_so h1).1.1 (if_so h1).1.2.1 (if_so h1).1.2.2 (by decide) f_RX5_15 rfl dX5_take_2 ?_
  replace hf := bd_so hf
  obtain ⟨_, h2, hf⟩ := hf
  replace hf := bd_so hf
  obtain ⟨S3, h4, hf⟩ := hf
  refine g_putI (ci := 5) (k := 0) C g_us hW rfl (if_so h2).1.1 (if_so h2).1.2.1 (if_so h2).1.2.2 (by decide) f_RX5_15 rfl rfl rfl h4 dX5_take_5 (fun H locs hW => ?_)
  refine lv_aload_n hx hb dX5_take_8 rfl (lv_at hl 1 rfl) ?_
  replace hf := bd_so hf
  obtain ⟨_, h5, hf⟩ := hf
  refine g_get (ci := 5) (k := 1) (val := .ref (E.ad (a1 + 1))) C g_us hW rfl (if_so h5).1.1 (if_so h5).1.2.1 (if_so h5).1.2.2 (by decide) f_RX5_9 rfl dX5_take_9 ?_
  refine lv_iconst (v := 0) hx hb dX5_take_12 (by decide) ?_
  refine lv_aload_n hx hb dX5_take_13 rfl (lv_at hl 0 rfl) ?_
  replace hf := bd_so hf
  obtain ⟨_, h6, hf⟩ := hf
  refine g_get (ci := 5) (k := 1) (val := .ref (E.ad (a0 + 1))) C g_us hW rfl (if_so h6).1.1 (if_so h6).1.2.1 (if_so h6).1.2.2 (by decide) f_RX5_9 rfl dX5_take_14 ?_
  refine lv_iconst (v := 0) hx hb dX5_take_17 (by decide) ?_
  refine lv_aload_n hx hb dX5_take_18 rfl (lv_at hl 0 rfl) ?_
  replace hf := bd_so hf
  obtain ⟨_, h7, hf⟩ := hf
  refine g_get (ci := 5) (k := 1) (val := .ref (E.ad (a0 + 1))) C g_us hW rfl (if_so h7).1.1 (if_so h7).1.2.1 (if_so h7).1.2.2 (by decide) f_RX5_9 rfl dX5_take_19 ?_
  replace hf := bd_so hf
  obtain ⟨x8, h9, hf⟩ := hf
  refine g_alen C hW h9 dX5_take_22 ?_
  replace hf := bd_so hf
  obtain ⟨S10, h11, hf⟩ := hf
  refine g_copyI C g_us hW hl.1 k_RX5_19 (Nat.le_of_ble_eq_true rfl) (Nat.le_of_ble_eq_true rfl) h11 dX5_take_23 (fun H locs hW => ?_)
  obtain rfl := so1 hf
  exact kR _ _ _ _ hW dX5_take_26

abbrev rm_X3_take : Room := { frames := 1, cells := 0, slots := 0, locals := 60 }
set_option maxHeartbeats 4000000 in
set_option maxRecDepth 100000 in
theorem c_X3_take (l : Launch) (E : En) (S : St) (a0 : Nat) (a1 : Nat) (S1 : St) (hf : X3_take S a0 a1 = some S1) : Mv l E yX3_take cX3_take 2 none rm_X3_take [.ref (E.ad a0), .ref (E.ad a1)] S S1 := by
  refine g_startV (cc := cX3_take) (n := 2) (by decide) (Nat.le_of_ble_eq_true rfl) ?_
  intro p e s m args below meth c Q H locs C kR hW ls hl
  obtain ⟨⟨hx, hb, hml, hown, hts⟩, hK, hT⟩ := id C
  have hl : lv_has ls 2 [(0, .ref (E.ad a0)), (1, .ref (E.ad a1))] := hl
  unfold X3_take at hf
  refine lv_aload_n hx hb dX3_take_0 rfl (lv_at hl 0 rfl) ?_
  refine lv_aload_n hx hb dX3_take_1 rfl (lv_at hl 1 rfl) ?_
  replace hf := bd_so hf
  obtain ⟨_, h1, hf⟩ := hf
  refine g_get (ci := 3) (k := 0) (val := .int (rI S a1 0)) C g_us hW rfl (if_so h1).1.1 (if_so h1).1.2.1 (if_so h1).1.2.2 (by decide) f_RX3_15 rfl dX3_take_2 ?_
  replace hf := bd_so hf
  obtain ⟨_, h2, hf⟩ := hf
  replace hf := bd_so hf
  obtain ⟨S3, h4, hf⟩ := hf
  refine g_putI (ci := 3) (k := 0) C g_us hW rfl (if_so h2).1.1 (if_so h2).1.2.1 (if_so h2).1.2.2 (by decide) f_RX3_15 rfl rfl rfl h4 dX3_take_5 (fun H locs hW => ?_)
  refine lv_aload_n hx hb dX3_take_8 rfl (lv_at hl 1 rfl) ?_
  replace hf := bd_so hf
  obtain ⟨_, h5, hf⟩ := hf
  refine g_get (ci := 3) (k := 1) (val := .ref (E.ad (a1 + 1))) C g_us hW rfl (if_so h5).1.1 (if_so h5).1.2.1 (if_so h5).1.2.2 (by decide) f_RX3_9 rfl dX3_take_9 ?_
  refine lv_iconst (v := 0) hx hb dX3_take_12 (by decide) ?_
  refine lv_aload_n hx hb dX3_take_13 rfl (lv_at hl 0 rfl) ?_
  replace hf := bd_so hf
  obtain ⟨_, h6, hf⟩ := hf
  refine g_get (ci := 3) (k := 1) (val := .ref (E.ad (a0 + 1))) C g_us hW rfl (if_so h6).1.1 (if_so h6).1.2.1 (if_so h6).1.2.2 (by decide) f_RX3_9 rfl dX3_take_14 ?_
  refine lv_iconst (v := 0) hx hb dX3_take_17 (by decide) ?_
  refine lv_aload_n hx hb dX3_take_18 rfl (lv_at hl 0 rfl) ?_
  replace hf := bd_so hf
  obtain ⟨_, h7, hf⟩ := hf
  refine g_get (ci := 3) (k := 1) (val := .ref (E.ad (a0 + 1))) C g_us hW rfl (if_so h7).1.1 (if_so h7).1.2.1 (if_so h7).1.2.2 (by decide) f_RX3_9 rfl dX3_take_19 ?_
  replace hf := bd_so hf
  obtain ⟨x8, h9, hf⟩ := hf
  refine g_alenL C hW h9 dX3_take_22 ?_
  replace hf := bd_so hf
  obtain ⟨S10, h11, hf⟩ := hf
  refine g_copyJ C g_us hW hl.1 k_RX3_19 (Nat.le_of_ble_eq_true rfl) (Nat.le_of_ble_eq_true rfl) h11 dX3_take_23 (fun H locs hW => ?_)
  obtain rfl := so1 hf
  exact kR _ _ _ _ hW dX3_take_26

abbrev rm_X1_take : Room := { frames := 2, cells := 0, slots := 0, locals := 81 }
set_option maxHeartbeats 4000000 in
set_option maxRecDepth 100000 in
theorem c_X1_take (l : Launch) (E : En) (S : St) (a0 : Nat) (a1 : Nat) (S1 : St) (hf : X1_take S a0 a1 = some S1) : Mv l E yX1_take cX1_take 2 none rm_X1_take [.ref (E.ad a0), .ref (E.ad a1)] S S1 := by
  refine g_startV (cc := cX1_take) (n := 2) (by decide) (Nat.le_of_ble_eq_true rfl) ?_
  intro p e s m args below meth c Q H locs C kR hW ls hl
  obtain ⟨⟨hx, hb, hml, hown, hts⟩, hK, hT⟩ := id C
  have hl : lv_has ls 2 [(0, .ref (E.ad a0)), (1, .ref (E.ad a1))] := hl
  unfold X1_take at hf
  refine lv_aload_n hx hb dX1_take_0 rfl (lv_at hl 0 rfl) ?_
  replace hf := bd_so hf
  obtain ⟨_, h1, hf⟩ := hf
  refine g_get (ci := 1) (k := 0) (val := .ref (E.ad (a0 + 1))) C g_us hW rfl (if_so h1).1.1 (if_so h1).1.2.1 (if_so h1).1.2.2 (by decide) f_RX1_12 rfl dX1_take_1 ?_
  refine lv_aload_n hx hb dX1_take_4 rfl (lv_at hl 1 rfl) ?_
  replace hf := bd_so hf
  obtain ⟨_, h2, hf⟩ := hf
  refine g_get (ci := 1) (k := 0) (val := .ref (E.ad (a1 + 1))) C g_us hW rfl (if_so h2).1.1 (if_so h2).1.2.1 (if_so h2).1.2.2 (by decide) f_RX1_12 rfl dX1_take_5 ?_
  replace hf := bd_so hf
  obtain ⟨_, h3, hf⟩ := hf
  replace hf := bd_so hf
  obtain ⟨S5, h4, hf⟩ := hf
  refine g_callVv (ci := 6) (As := [.ref (E.ad (a1 + 1))]) (rest := []) C g_us hW hl.1 (c_X6_take l E S (a0 + 1) (a1 + 1) _ h4) rfl (if_so h3).1.1 (if_so h3).1.2.1 (if_so h3).1.2.2 k_RX1_36 rfl ⟨rfl, rfl⟩ ⟨Nat.le_of_ble_eq_true rfl, Nat.le_of_ble_eq_true rfl⟩ ⟨Nat.zero_le _, Nat.zero_le _⟩ _ rfl (Nat.le_of_ble_eq_true rfl) dX1_take_8 (fun H locs hW => ?_)
  refine lv_aload_n hx hb dX1_take_11 rfl (lv_at hl 0 rfl) ?_
  replace hf := bd_so hf
  obtain ⟨_, h6, hf⟩ := hf
  refine g_get (ci := 1) (k := 1) (val := .ref (E.ad (a0 + 5))) C g_us hW rfl (if_so h6).1.1 (if_so h6).1.2.1 (if_so h6).1.2.2 (by decide) f_RX1_21 rfl dX1_take_12 ?_
  refine lv_aload_n hx hb dX1_take_15 rfl (lv_at hl 1 rfl) ?_
  replace hf := bd_so hf
  obtain ⟨_, h7, hf⟩ := hf
  refine g_get (ci := 1) (k := 1) (val := .ref (E.ad (a1 + 5))) C g_us hW rfl (if_so h7).1.1 (if_so h7).1.2.1 (if_so h7).1.2.2 (by decide) f_RX1_21 rfl dX1_take_16 ?_
  replace hf := bd_so hf
  obtain ⟨_, h8, hf⟩ := hf
  replace hf := bd_so hf
  obtain ⟨S10, h9, hf⟩ := hf
  refine g_callVv (ci := 5) (As := [.ref (E.ad (a1 + 5))]) (rest := []) C g_us hW hl.1 (c_X5_take l E S5 (a0 + 5) (a1 + 5) _ h9) rfl (if_so h8).1.1 (if_so h8).1.2.1 (if_so h8).1.2.2 k_RX1_40 rfl ⟨rfl, rfl⟩ ⟨Nat.le_of_ble_eq_true rfl, Nat.le_of_ble_eq_true rfl⟩ ⟨Nat.zero_le _, Nat.zero_le _⟩ _ rfl (Nat.le_of_ble_eq_true rfl) dX1_take_19 (fun H locs hW => ?_)
  refine lv_aload_n hx hb dX1_take_22 rfl (lv_at hl 0 rfl) ?_
  replace hf := bd_so hf
  obtain ⟨_, h11, hf⟩ := hf
  refine g_get (ci := 1) (k := 2) (val := .ref (E.ad (a0 + 7))) C g_us hW rfl (if_so h11).1.1 (if_so h11).1.2.1 (if_so h11).1.2.2 (by decide) f_RX1_28 rfl dX1_take_23 ?_
  refine lv_aload_n hx hb dX1_take_26 rfl (lv_at hl 1 rfl) ?_
  replace hf := bd_so hf
  obtain ⟨_, h12, hf⟩ := hf
  refine g_get (ci := 1) (k := 2) (val := .ref (E.ad (a1 + 7))) C g_us hW rfl (if_so h12).1.1 (if_so h12).1.2.1 (if_so h12).1.2.2 (by decide) f_RX1_28 rfl dX1_take_27 ?_
  replace hf := bd_so hf
  obtain ⟨_, h13, hf⟩ := hf
  replace hf := bd_so hf
  obtain ⟨S15, h14, hf⟩ := hf
  refine g_callVv (ci := 3) (As := [.ref (E.ad (a1 + 7))]) (rest := []) C g_us hW hl.1 (c_X3_take l E S10 (a0 + 7) (a1 + 7) _ h14) rfl (if_so h13).1.1 (if_so h13).1.2.1 (if_so h13).1.2.2 k_RX1_43 rfl ⟨rfl, rfl⟩ ⟨Nat.le_of_ble_eq_true rfl, Nat.le_of_ble_eq_true rfl⟩ ⟨Nat.zero_le _, Nat.zero_le _⟩ _ rfl (Nat.le_of_ble_eq_true rfl) dX1_take_30 (fun H locs hW => ?_)
  refine lv_aload_n hx hb dX1_take_33 rfl (lv_at hl 0 rfl) ?_
  refine lv_aload_n hx hb dX1_take_34 rfl (lv_at hl 1 rfl) ?_
  replace hf := bd_so hf
  obtain ⟨_, h16, hf⟩ := hf
  refine g_get (ci := 1) (k := 3) (val := .int (rI S15 a1 3)) C g_us hW rfl (if_so h16).1.1 (if_so h16).1.2.1 (if_so h16).1.2.2 (by decide) f_RX1_32 rfl dX1_take_35 ?_
  replace hf := bd_so hf
  obtain ⟨_, h17, hf⟩ := hf
  replace hf := bd_so hf
  obtain ⟨S18, h19, hf⟩ := hf
  refine g_putI (ci := 1) (k := 3) C g_us hW rfl (if_so h17).1.1 (if_so h17).1.2.1 (if_so h17).1.2.2 (by decide) f_RX1_32 rfl rfl rfl h19 dX1_take_38 (fun H locs hW => ?_)
  obtain rfl := so1 hf
  exact kR _ _ _ _ hW dX1_take_41

abbrev rm_X6_singers : Room := { frames := 3, cells := 0, slots := 0, locals := 103 }
set_option maxHeartbeats 4000000 in
set_option maxRecDepth 100000 in
theorem c_X6_singers (l : Launch) (E : En) (S : St) (r : Int32) (hf : X6_singers S  = some r) : Mi l E yX6_singers cX6_singers 3 (some .int) rm_X6_singers [.ref (E.ad 2)] S r S := by
  refine g_startI (cc := cX6_singers) (n := 3) (by decide) (Nat.le_of_ble_eq_true rfl) ?_
  intro p e s m args below meth c Q H locs C kR hW ls hl
  obtain ⟨⟨hx, hb, hml, hown, hts⟩, hK, hT⟩ := id C
  have hl : lv_has ls 3 [(0, .ref (E.ad 2))] := hl
  have X6_singers_L4_c : ∀ (S : St) (res : Int32) (n : Nat) (v1 : Int32) (v2 : Int32) (H : Heap) (locs : List Loc) (ls : Array Slot), Ww E S s H locs → lv_has ls 3 [(0, .ref (E.ad 2)), (1, .int v1), (2, .int v2)] → X6_singers_L4 S  n v1 v2 = some res → (∀ (w1 : Int32) (H : Heap) (locs : List Loc) (ls : Array Slot), some w1 = some res → Ww E S s H locs → lv_has ls 3 [(1, .int w1)] → W p l e rm_X6_singers s m args below meth c H locs 0 0 Q (F0 m 36 ls [])) → W p l e rm_X6_singers s m args below meth c H locs 0 0 Q (F0 m 4 ls []) := by
    intro S  res n
    induction n with
    | zero =>
      intro v1 v2 H locs ls hW hl hf
      cases hf
    | succ n ih =>
      intro v1 v2 H locs ls hW hl hf kE
      unfold X6_singers_L4 at hf
      refine lv_iload_n hx hb dX6_singers_4 rfl (lv_at hl 2 rfl) ?_
      refine lv_aload_n hx hb dX6_singers_5 rfl (lv_at hl 0 rfl) ?_
      refine g_get (ci := 6) (k := 0) (val := .int (rI S 2 0)) C g_us hW rfl rfl rfl (in_sid _ rfl) (by decide) f_RX6_28 rfl dX6_singers_6 ?_
      refine lv_icmp_ge (tgt := 36) hx hb dX6_singers_9 (by decide) (fun c1 => ?_) (fun c1 => ?_)
      · replace hf := ift_ hf c1
        exact kE _ _ _ _ hf hW (lv_sub hl [1] rfl)
      · replace hf := iff_ hf c1
        refine lv_iload_n hx hb dX6_singers_12 rfl (lv_at hl 1 rfl) ?_
        refine lv_aload_n hx hb dX6_singers_13 rfl (lv_at hl 0 rfl) ?_
        refine lv_iload_n hx hb dX6_singers_14 rfl (lv_at hl 2 rfl) ?_
        replace hf := bd_so hf
        obtain ⟨x3, h2, hf⟩ := hf
        refine g_callVi (ci := 6) (As := [.int v2]) (rest := [.int v1]) C g_us hW hl.1 (c_X6_sings l E S v2 _ h2) rfl rfl rfl (in_sid _ rfl) k_RX6_48 rfl ⟨rfl, rfl⟩ ⟨Nat.le_of_ble_eq_true rfl, Nat.le_of_ble_eq_true rfl⟩ ⟨Nat.zero_le _, Nat.zero_le _⟩ _ rfl (Nat.le_of_ble_eq_true rfl) dX6_singers_15 (fun H locs hW => ?_)
        replace hf := bd_so hf
        obtain ⟨x5, h6, hf⟩ := hf
        have J7 : ∀ (H : Heap) (locs : List Loc) (ls : Array Slot), Ww E S s H locs → lv_has ls 3 [(0, .ref (E.ad 2)), (2, .int v2)] → W p l e rm_X6_singers s m args below meth c H locs 0 0 Q (F0 m 28 ls [.int x5, .int v1]) := by
          intro H locs ls hW hl
          refine lv_ior hx hb dX6_singers_28 ?_
          refine lv_istore_n (lv' := [(1, .int (v1 ||| x5)), (0, .ref (E.ad 2)), (2, .int v2)]) hx hb dX6_singers_29 rfl hl (by decide) rfl (fun ls hl => ?_)
          refine lv_iinc (v := (v2 + 1)) (lv' := [(2, .int (v2 + 1)), (1, .int (v1 ||| x5)), (0, .ref (E.ad 2))]) hx hb dX6_singers_30 hl (k := 2) rfl rfl (by decide) rfl (fun ls hl => ?_)
          refine lv_goto (tgt := 4) hx hb dX6_singers_33 (by decide) ?_
          exact ih _ _ _ _ _ hW (lv_sub hl [2, 1, 0] rfl) hf kE
        clear hf
        have hf := h6
        clear h6
        refine lv_if_eq (tgt := 27) hx hb dX6_singers_18 (by decide) (fun c4 => ?_) (fun c4 => ?_)
        · replace hf := ift_ hf c4
          refine lv_iconst (v := 0) hx hb dX6_singers_27 (by decide) ?_
          obtain rfl := so1 hf
          exact J7 _ _ _ hW (lv_sub hl [0, 2] rfl)
        · replace hf := iff_ hf c4
          refine lv_iconst (v := 1) hx hb dX6_singers_21 (by decide) ?_
          refine lv_iload_n hx hb dX6_singers_22 rfl (lv_at hl 2 rfl) ?_
          refine lv_ishl hx hb dX6_singers_23 ?_
          refine lv_goto (tgt := 28) hx hb dX6_singers_24 (by decide) ?_
          obtain rfl := so1 hf
          exact J7 _ _ _ hW (lv_sub hl [0, 2] rfl)
  unfold X6_singers at hf
  refine lv_iconst (v := 0) hx hb dX6_singers_0 (by decide) ?_
  refine lv_istore_n (lv' := [(1, .int 0), (0, .ref (E.ad 2))]) hx hb dX6_singers_1 rfl hl (by decide) rfl (fun ls hl => ?_)
  refine lv_iconst (v := 0) hx hb dX6_singers_2 (by decide) ?_
  refine lv_istore_n (lv' := [(2, .int 0), (1, .int 0), (0, .ref (E.ad 2))]) hx hb dX6_singers_3 rfl hl (by decide) rfl (fun ls hl => ?_)
  replace hf := bd_so hf
  obtain ⟨x8, h9, hf⟩ := hf
  have J10 : ∀ (H : Heap) (locs : List Loc) (ls : Array Slot), Ww E S s H locs → lv_has ls 3 [(1, .int x8)] → W p l e rm_X6_singers s m args below meth c H locs 0 0 Q (F0 m 36 ls []) := by
    intro H locs ls hW hl
    refine lv_iload_n hx hb dX6_singers_36 rfl (lv_at hl 0 rfl) ?_
    obtain rfl := so1 hf
    exact kR _ _ _ _ hW dX6_singers_37
  exact X6_singers_L4_c _ _ FU _ _ _ _ _ hW (lv_sub hl [2, 1, 0] rfl) h9 (fun _ H locs ls e hW hl => by cases e; exact J10 H locs ls hW hl)

abbrev rm_X6_isCut : Room := { frames := 2, cells := 0, slots := 0, locals := 82 }
set_option maxHeartbeats 4000000 in
set_option maxRecDepth 100000 in
theorem c_X6_isCut (l : Launch) (E : En) (S : St) (a1 : Int32) (r : Int32) (hf : X6_isCut S a1 = some r) : Mi l E yX6_isCut cX6_isCut 2 (some .boolean) rm_X6_isCut [.ref (E.ad 2), .int a1] S r S := by
  refine g_startZ (cc := cX6_isCut) (n := 2) (by decide) (Nat.le_of_ble_eq_true rfl) ?_
  intro p e s m args below meth c Q H locs C kR hW ls hl
  obtain ⟨⟨hx, hb, hml, hown, hts⟩, hK, hT⟩ := id C
  have hl : lv_has ls 2 [(0, .ref (E.ad 2)), (1, .int a1)] := hl
  unfold X6_isCut at hf
  refine lv_aload_n hx hb dX6_isCut_0 rfl (lv_at hl 0 rfl) ?_
  refine lv_iload_n hx hb dX6_isCut_1 rfl (lv_at hl 1 rfl) ?_
  refine lv_iconst (v := 0) hx hb dX6_isCut_2 (by decide) ?_
  replace hf := bd_so hf
  obtain ⟨x2, h1, hf⟩ := hf
  refine g_callVi (ci := 6) (As := [.int a1, .int 0]) (rest := []) C g_us hW hl.1 (c_X6_value l E S a1 0 _ h1) rfl rfl rfl (in_sid _ rfl) k_RX6_44 rfl ⟨rfl, rfl⟩ ⟨Nat.le_of_ble_eq_true rfl, Nat.le_of_ble_eq_true rfl⟩ ⟨Nat.zero_le _, Nat.zero_le _⟩ _ rfl (Nat.le_of_ble_eq_true rfl) dX6_isCut_3 (fun H locs hW => ?_)
  refine lv_iconst (v := 5) hx hb dX6_isCut_6 (by decide) ?_
  refine lv_icmp_ne (tgt := 14) hx hb dX6_isCut_7 (by decide) (fun c3 => ?_) (fun c3 => ?_)
  · replace hf := iff_ hf c3
    refine lv_iconst (v := 0) hx hb dX6_isCut_14 (by decide) ?_
    obtain rfl := so1 hf
    exact kR _ _ _ _ hW (Or.inl rfl) dX6_isCut_15
  · replace hf := ift_ hf c3
    refine lv_iconst (v := 1) hx hb dX6_isCut_10 (by decide) ?_
    refine lv_goto (tgt := 15) hx hb dX6_isCut_11 (by decide) ?_
    obtain rfl := so1 hf
    exact kR _ _ _ _ hW (Or.inr rfl) dX6_isCut_15

abbrev rm_X6_reachedByAll : Room := { frames := 2, cells := 0, slots := 0, locals := 82 }
set_option maxHeartbeats 4000000 in
set_option maxRecDepth 100000 in
theorem c_X6_reachedByAll (l : Launch) (E : En) (S : St) (a1 : Int32) (a2 : Int32) (r : Int32) (hf : X6_reachedByAll S a1 a2 = some r) : Mi l E yX6_reachedByAll cX6_reachedByAll 4 (some .boolean) rm_X6_reachedByAll [.ref (E.ad 2), .int a1, .int a2] S r S := by
  refine g_startZ (cc := cX6_reachedByAll) (n := 4) (by decide) (Nat.le_of_ble_eq_true rfl) ?_
  intro p e s m args below meth c Q H locs C kR hW ls hl
  obtain ⟨⟨hx, hb, hml, hown, hts⟩, hK, hT⟩ := id C
  have hl : lv_has ls 4 [(0, .ref (E.ad 2)), (1, .int a1), (2, .int a2)] := hl
  have X6_reachedByAll_L2_c : ∀ (S : St) (v1 : Int32) (v2 : Int32) (res : (Unit) ⊕ (Int32)) (n : Nat) (v3 : Int32) (H : Heap) (locs : List Loc) (ls : Array Slot), Ww E S s H locs → lv_has ls 4 [(0, .ref (E.ad 2)), (1, .int v1), (2, .int v2), (3, .int v3)] → X6_reachedByAll_L2 S v1 v2 n v3 = some res → (∀ (H : Heap) (locs : List Loc) (ls : Array Slot), some (.inl ()) = some res → Ww E S s H locs → lv_has ls 4 [] → W p l e rm_X6_reachedByAll s m args below meth c H locs 0 0 Q (F0 m 35 ls [])) → (∀ (r0 : Int32) (H : Heap) (locs : List Loc) (pc : Nat) (ls : Array Slot), some (.inr r0) = some res → Ww E S s H locs → (r0 = 0 ∨ r0 = 1) → decode cX6_reachedByAll pc = .ok (.ireturn, 1) → W p l e rm_X6_reachedByAll s m args below meth c H locs 0 0 Q (F0 m pc ls [.int r0])) → W p l e rm_X6_reachedByAll s m args below meth c H locs 0 0 Q (F0 m 2 ls []) := by
    intro S v1 v2 res n
    induction n with
    | zero =>
      intro v3 H locs ls hW hl hf
      cases hf
    | succ n ih =>
      intro v3 H locs ls hW hl hf kE kR
      unfold X6_reachedByAll_L2 at hf
      refine lv_iload_n hx hb dX6_reachedByAll_2 rfl (lv_at hl 3 rfl) ?_
      refine lv_aload_n hx hb dX6_reachedByAll_3 rfl (lv_at hl 0 rfl) ?_
      refine g_get (ci := 6) (k := 0) (val := .int (rI S 2 0)) C g_us hW rfl rfl rfl (in_sid _ rfl) (by decide) f_RX6_28 rfl dX6_reachedByAll_4 ?_
      refine lv_icmp_ge (tgt := 35) hx hb dX6_reachedByAll_7 (by decide) (fun c1 => ?_) (fun c1 => ?_)
      · replace hf := ift_ hf c1
        exact kE  _ _ _ hf hW (lv_sub hl [] rfl)
      · replace hf := iff_ hf c1
        refine lv_iload_n hx hb dX6_reachedByAll_10 rfl (lv_at hl 2 rfl) ?_
        refine lv_iload_n hx hb dX6_reachedByAll_11 rfl (lv_at hl 3 rfl) ?_
        refine lv_ishr hx hb dX6_reachedByAll_12 ?_
        refine lv_iconst (v := 1) hx hb dX6_reachedByAll_13 (by decide) ?_
        refine lv_iand hx hb dX6_reachedByAll_14 ?_
        refine lv_if_eq (tgt := 29) hx hb dX6_reachedByAll_15 (by decide) (fun c2 => ?_) (fun c2 => ?_)
        · replace hf := ift_ hf c2
          refine lv_iinc (v := (v3 + 1)) (lv' := [(3, .int (v3 + 1)), (0, .ref (E.ad 2)), (1, .int v1), (2, .int v2)]) hx hb dX6_reachedByAll_29 hl (k := 3) rfl rfl (by decide) rfl (fun ls hl => ?_)
          refine lv_goto (tgt := 2) hx hb dX6_reachedByAll_32 (by decide) ?_
          exact ih _ _ _ _ hW (lv_sub hl [1, 2, 3, 0] rfl) hf kE kR
        · replace hf := iff_ hf c2
          refine lv_aload_n hx hb dX6_reachedByAll_18 rfl (lv_at hl 0 rfl) ?_
          refine lv_iload_n hx hb dX6_reachedByAll_19 rfl (lv_at hl 3 rfl) ?_
          refine lv_iload_n hx hb dX6_reachedByAll_20 rfl (lv_at hl 1 rfl) ?_
          replace hf := bd_so hf
          obtain ⟨x4, h3, hf⟩ := hf
          refine g_callVi (ci := 6) (As := [.int v3, .int v1]) (rest := []) C g_us hW hl.1 (c_X6_between l E S v3 v1 _ h3) rfl rfl rfl (in_sid _ rfl) k_RX6_54 rfl ⟨rfl, rfl⟩ ⟨Nat.le_of_ble_eq_true rfl, Nat.le_of_ble_eq_true rfl⟩ ⟨Nat.zero_le _, Nat.zero_le _⟩ _ rfl (Nat.le_of_ble_eq_true rfl) dX6_reachedByAll_21 (fun H locs hW => ?_)
          refine lv_if_ne (tgt := 29) hx hb dX6_reachedByAll_24 (by decide) (fun c5 => ?_) (fun c5 => ?_)
          · replace hf := iff_ hf c5
            refine lv_iinc (v := (v3 + 1)) (lv' := [(3, .int (v3 + 1)), (0, .ref (E.ad 2)), (1, .int v1), (2, .int v2)]) hx hb dX6_reachedByAll_29 hl (k := 3) rfl rfl (by decide) rfl (fun ls hl => ?_)
            refine lv_goto (tgt := 2) hx hb dX6_reachedByAll_32 (by decide) ?_
            exact ih _ _ _ _ hW (lv_sub hl [1, 2, 3, 0] rfl) hf kE kR
          · replace hf := ift_ hf c5
            refine lv_iconst (v := 0) hx hb dX6_reachedByAll_27 (by decide) ?_
            exact kR _ _ _ _ _ hf hW (Or.inl rfl) dX6_reachedByAll_28
  unfold X6_reachedByAll at hf
  refine lv_iconst (v := 0) hx hb dX6_reachedByAll_0 (by decide) ?_
  refine lv_istore_n (lv' := [(3, .int 0), (0, .ref (E.ad 2)), (1, .int a1), (2, .int a2)]) hx hb dX6_reachedByAll_1 rfl hl (by decide) rfl (fun ls hl => ?_)
  replace hf := bd_so hf
  obtain ⟨t, h6, hf⟩ := hf
  rcases t with u | x8
  · dsimp only at hf
    have J7 : ∀ (H : Heap) (locs : List Loc) (ls : Array Slot), Ww E S s H locs → lv_has ls 4 [] → W p l e rm_X6_reachedByAll s m args below meth c H locs 0 0 Q (F0 m 35 ls []) := by
      intro H locs ls hW hl
      refine lv_iconst (v := 1) hx hb dX6_reachedByAll_35 (by decide) ?_
      obtain rfl := so1 hf
      exact kR _ _ _ _ hW (Or.inr rfl) dX6_reachedByAll_36
    exact X6_reachedByAll_L2_c _ _ _ _ FU _ _ _ _ hW (lv_sub hl [1, 2, 3, 0] rfl) h6 (fun H locs ls e hW hl => by cases e; exact J7 H locs ls hW hl) (fun _ H locs pc ls e hW hz dd => by cases e)
  · dsimp only at hf
    refine X6_reachedByAll_L2_c _ _ _ _ FU _ _ _ _ hW (lv_sub hl [1, 2, 3, 0] rfl) h6 (fun H locs ls e hW hl => by cases e) (fun _ H locs pc ls e hW hz dd => ?_)
    cases e
    obtain rfl := so1 hf
    exact kR _ _ _ _ hW hz dd

abbrev rm_X6_shortestWire : Room := { frames := 2, cells := 0, slots := 0, locals := 82 }
set_option maxHeartbeats 4000000 in
set_option maxRecDepth 100000 in
theorem c_X6_shortestWire (l : Launch) (E : En) (S : St) (a1 : Int32) (a2 : Int32) (r : Int32) (hf : X6_shortestWire S a1 a2 = some r) : Mi l E yX6_shortestWire cX6_shortestWire 5 (some .int) rm_X6_shortestWire [.ref (E.ad 2), .int a1, .int a2] S r S := by
  refine g_startI (cc := cX6_shortestWire) (n := 5) (by decide) (Nat.le_of_ble_eq_true rfl) ?_
  intro p e s m args below meth c Q H locs C kR hW ls hl
  obtain ⟨⟨hx, hb, hml, hown, hts⟩, hK, hT⟩ := id C
  have hl : lv_has ls 5 [(0, .ref (E.ad 2)), (1, .int a1), (2, .int a2)] := hl
  have X6_shortestWire_L7_c : ∀ (S : St) (v1 : Int32) (v2 : Int32) (res : Int32) (n : Nat) (v3 : Int32) (v4 : Int32) (H : Heap) (locs : List Loc) (ls : Array Slot), Ww E S s H locs → lv_has ls 5 [(0, .ref (E.ad 2)), (1, .int v1), (2, .int v2), (3, .int v3), (4, .int v4)] → X6_shortestWire_L7 S v1 v2 n v3 v4 = some res → (∀ (w3 : Int32) (H : Heap) (locs : List Loc) (ls : Array Slot), some w3 = some res → Ww E S s H locs → lv_has ls 5 [(3, .int w3)] → W p l e rm_X6_shortestWire s m args below meth c H locs 0 0 Q (F0 m 43 ls [])) → W p l e rm_X6_shortestWire s m args below meth c H locs 0 0 Q (F0 m 7 ls []) := by
    intro S v1 v2 res n
    induction n with
    | zero =>
      intro v3 v4 H locs ls hW hl hf
      cases hf
    | succ n ih =>
      intro v3 v4 H locs ls hW hl hf kE
      unfold X6_shortestWire_L7 at hf
      refine lv_iload hx hb dX6_shortestWire_7 (lv_at hl 4 rfl) ?_
      refine lv_aload_n hx hb dX6_shortestWire_9 rfl (lv_at hl 0 rfl) ?_
      refine g_get (ci := 6) (k := 0) (val := .int (rI S 2 0)) C g_us hW rfl rfl rfl (in_sid _ rfl) (by decide) f_RX6_28 rfl dX6_shortestWire_10 ?_
      refine lv_icmp_ge (tgt := 43) hx hb dX6_shortestWire_13 (by decide) (fun c1 => ?_) (fun c1 => ?_)
      · replace hf := ift_ hf c1
        exact kE _ _ _ _ hf hW (lv_sub hl [3] rfl)
      · replace hf := iff_ hf c1
        refine lv_iload_n hx hb dX6_shortestWire_16 rfl (lv_at hl 2 rfl) ?_
        refine lv_iload hx hb dX6_shortestWire_17 (lv_at hl 4 rfl) ?_
        refine lv_ishr hx hb dX6_shortestWire_19 ?_
        refine lv_iconst (v := 1) hx hb dX6_shortestWire_20 (by decide) ?_
        refine lv_iand hx hb dX6_shortestWire_21 ?_
        replace hf := bd_so hf
        obtain ⟨x3, h4, hf⟩ := hf
        have J5 : ∀ (H : Heap) (locs : List Loc) (ls : Array Slot), Ww E S s H locs → lv_has ls 5 [(0, .ref (E.ad 2)), (1, .int v1), (2, .int v2), (3, .int x3), (4, .int v4)] → W p l e rm_X6_shortestWire s m args below meth c H locs 0 0 Q (F0 m 37 ls []) := by
          intro H locs ls hW hl
          refine lv_iinc (v := (v4 + 1)) (lv' := [(4, .int (v4 + 1)), (0, .ref (E.ad 2)), (1, .int v1), (2, .int v2), (3, .int x3)]) hx hb dX6_shortestWire_37 hl (k := 4) rfl rfl (by decide) rfl (fun ls hl => ?_)
          refine lv_goto (tgt := 7) hx hb dX6_shortestWire_40 (by decide) ?_
          exact ih _ _ _ _ _ hW (lv_sub hl [1, 2, 3, 4, 0] rfl) hf kE
        clear hf
        have hf := h4
        clear h4
        refine lv_if_eq (tgt := 37) hx hb dX6_shortestWire_22 (by decide) (fun c2 => ?_) (fun c2 => ?_)
        · replace hf := ift_ hf c2
          obtain rfl := so1 hf
          exact J5 _ _ _ hW (lv_sub hl [0, 1, 2, 3, 4] rfl)
        · replace hf := iff_ hf c2
          refine lv_iload_n hx hb dX6_shortestWire_25 rfl (lv_at hl 3 rfl) ?_
          refine lv_aload_n hx hb dX6_shortestWire_26 rfl (lv_at hl 0 rfl) ?_
          refine lv_iload hx hb dX6_shortestWire_27 (lv_at hl 4 rfl) ?_
          refine lv_iload_n hx hb dX6_shortestWire_29 rfl (lv_at hl 1 rfl) ?_
          replace hf := bd_so hf
          obtain ⟨x7, h6, hf⟩ := hf
          refine g_callVi (ci := 6) (As := [.int v4, .int v1]) (rest := [.int v3]) C g_us hW hl.1 (c_X6_between l E S v4 v1 _ h6) rfl rfl rfl (in_sid _ rfl) k_RX6_54 rfl ⟨rfl, rfl⟩ ⟨Nat.le_of_ble_eq_true rfl, Nat.le_of_ble_eq_true rfl⟩ ⟨Nat.zero_le _, Nat.zero_le _⟩ _ rfl (Nat.le_of_ble_eq_true rfl) dX6_shortestWire_30 (fun H locs hW => ?_)
          refine g_min C g_us hl.1 k_RX6_71 (Nat.le_of_ble_eq_true rfl) (Nat.le_of_ble_eq_true rfl) ⟨Nat.zero_le _, Nat.zero_le _⟩ dX6_shortestWire_33 ?_
          refine lv_istore_n (lv' := [(3, .int (if x7 < v3 then x7 else v3)), (0, .ref (E.ad 2)), (1, .int v1), (2, .int v2), (4, .int v4)]) hx hb dX6_shortestWire_36 rfl hl (by decide) rfl (fun ls hl => ?_)
          obtain rfl := so1 hf
          exact J5 _ _ _ hW (lv_sub hl [1, 2, 3, 0, 4] rfl)
  unfold X6_shortestWire at hf
  refine lv_sipush (v := 400) hx hb dX6_shortestWire_0 (by decide) ?_
  refine lv_istore_n (lv' := [(3, .int 400), (0, .ref (E.ad 2)), (1, .int a1), (2, .int a2)]) hx hb dX6_shortestWire_3 rfl hl (by decide) rfl (fun ls hl => ?_)
  refine lv_iconst (v := 0) hx hb dX6_shortestWire_4 (by decide) ?_
  refine lv_istore (lv' := [(4, .int 0), (3, .int 400), (0, .ref (E.ad 2)), (1, .int a1), (2, .int a2)]) hx hb dX6_shortestWire_5 hl (by decide) rfl (fun ls hl => ?_)
  replace hf := bd_so hf
  obtain ⟨x8, h9, hf⟩ := hf
  have J10 : ∀ (H : Heap) (locs : List Loc) (ls : Array Slot), Ww E S s H locs → lv_has ls 5 [(3, .int x8)] → W p l e rm_X6_shortestWire s m args below meth c H locs 0 0 Q (F0 m 43 ls []) := by
    intro H locs ls hW hl
    refine lv_iload_n hx hb dX6_shortestWire_43 rfl (lv_at hl 0 rfl) ?_
    obtain rfl := so1 hf
    exact kR _ _ _ _ hW dX6_shortestWire_44
  exact X6_shortestWire_L7_c _ _ _ _ FU _ _ _ _ _ hW (lv_sub hl [2, 3, 4, 1, 0] rfl) h9 (fun _ H locs ls e hW hl => by cases e; exact J10 H locs ls hW hl)

abbrev rm_X3_add : Room := { frames := 1, cells := 0, slots := 0, locals := 60 }
set_option maxHeartbeats 4000000 in
set_option maxRecDepth 100000 in
theorem c_X3_add (l : Launch) (E : En) (S : St) (a1 : Int64) (r : Int32) (S1 : St) (hf : X3_add S a1 = some (r, S1)) : Mi l E yX3_add cX3_add 3 (some .int) rm_X3_add [.ref (E.ad 8), .long a1] S r S1 := by
  refine g_startI (cc := cX3_add) (n := 3) (by decide) (Nat.le_of_ble_eq_true rfl) ?_
  intro p e s m args below meth c Q H locs C kR hW ls hl
  obtain ⟨⟨hx, hb, hml, hown, hts⟩, hK, hT⟩ := id C
  have hl : lv_has ls 3 [(0, .ref (E.ad 8)), (1, .long a1)] := hl
  unfold X3_add at hf
  refine lv_aload_n hx hb dX3_add_0 rfl (lv_at hl 0 rfl) ?_
  refine g_get (ci := 3) (k := 1) (val := .ref (E.ad 9)) C g_us hW rfl rfl rfl (in_sid _ rfl) (by decide) f_RX3_9 rfl dX3_add_1 ?_
  refine lv_aload_n hx hb dX3_add_4 rfl (lv_at hl 0 rfl) ?_
  refine g_get (ci := 3) (k := 0) (val := .int (rI S 8 0)) C g_us hW rfl rfl rfl (in_sid _ rfl) (by decide) f_RX3_15 rfl dX3_add_5 ?_
  refine lv_lload_n hx hb dX3_add_8 rfl (lv_at hl 1 rfl) ?_
  replace hf := bd_so hf
  obtain ⟨S1, h2, hf⟩ := hf
  refine g_last C hW h2 dX3_add_9 (fun H locs hW => ?_)
  refine lv_aload_n hx hb dX3_add_10 rfl (lv_at hl 0 rfl) ?_
  refine lv_dup hx hb dX3_add_11 rfl ?_
  refine g_get (ci := 3) (k := 0) (val := .int (rI S1 8 0)) C g_us hW rfl rfl rfl (in_sid _ rfl) (by decide) f_RX3_15 rfl dX3_add_12 ?_
  refine lv_iconst (v := 1) hx hb dX3_add_15 (by decide) ?_
  refine lv_iadd hx hb dX3_add_16 ?_
  replace hf := bd_so hf
  obtain ⟨S3, h4, hf⟩ := hf
  refine g_putI (ci := 3) (k := 0) C g_us hW rfl rfl rfl (in_sid _ rfl) (by decide) f_RX3_15 rfl rfl rfl h4 dX3_add_17 (fun H locs hW => ?_)
  refine lv_aload_n hx hb dX3_add_20 rfl (lv_at hl 0 rfl) ?_
  refine g_get (ci := 3) (k := 0) (val := .int (rI S3 8 0)) C g_us hW rfl rfl rfl (in_sid _ rfl) (by decide) f_RX3_15 rfl dX3_add_21 ?_
  refine lv_iconst (v := 1) hx hb dX3_add_24 (by decide) ?_
  refine lv_isub hx hb dX3_add_25 ?_
  obtain ⟨rfl, rfl⟩ := so2 hf
  exact kR _ _ _ _ hW dX3_add_26

abbrev rm_J6_bitCount_0f7a4 : Room := { frames := 1, cells := 0, slots := 0, locals := 60 }
set_option maxHeartbeats 4000000 in
set_option maxRecDepth 100000 in
theorem c_J6_bitCount_0f7a4 (l : Launch) (E : En) (S : St) (a0 : Int32) (r : Int32) (hf : J6_bitCount_0f7a4 S a0 = some r) : Mi l E yJ6_bitCount_0f7a4 cJ6_bitCount_0f7a4 1 (some .int) rm_J6_bitCount_0f7a4 [.int a0] S r S := by
  refine g_startI (cc := cJ6_bitCount_0f7a4) (n := 1) (by decide) (Nat.le_of_ble_eq_true rfl) ?_
  intro p e s m args below meth c Q H locs C kR hW ls hl
  obtain ⟨⟨hx, hb, hml, hown, hts⟩, hK, hT⟩ := id C
  have hl : lv_has ls 1 [(0, .int a0)] := hl
  unfold J6_bitCount_0f7a4 at hf
  refine lv_iload_n hx hb dJ6_bitCount_0f7a4_0 rfl (lv_at hl 0 rfl) ?_
  refine lv_iload_n hx hb dJ6_bitCount_0f7a4_1 rfl (lv_at hl 0 rfl) ?_
  refine lv_iconst (v := 1) hx hb dJ6_bitCount_0f7a4_2 (by decide) ?_
  refine lv_iushr (v := ((a0 : Int32).toUInt32 >>> ((1 : Int32).toUInt32 &&& Int32.toUInt32 31)).toInt32) hx hb dJ6_bitCount_0f7a4_3 rfl ?_
  refine lv_ldcw hx hb hown (hts _ (g_us _ q_RJ6_265)) dJ6_bitCount_0f7a4_4 ?_
  refine lv_iand hx hb dJ6_bitCount_0f7a4_7 ?_
  refine lv_isub hx hb dJ6_bitCount_0f7a4_8 ?_
  refine lv_istore_n (lv' := [(0, .int (a0 - (((a0 : Int32).toUInt32 >>> ((1 : Int32).toUInt32 &&& Int32.toUInt32 31)).toInt32 &&& 1431655765)))]) hx hb dJ6_bitCount_0f7a4_9 rfl hl (by decide) rfl (fun ls hl => ?_)
  refine lv_iload_n hx hb dJ6_bitCount_0f7a4_10 rfl (lv_at hl 0 rfl) ?_
  refine lv_ldcw hx hb hown (hts _ (g_us _ q_RJ6_266)) dJ6_bitCount_0f7a4_11 ?_
  refine lv_iand hx hb dJ6_bitCount_0f7a4_14 ?_
  refine lv_iload_n hx hb dJ6_bitCount_0f7a4_15 rfl (lv_at hl 0 rfl) ?_
  refine lv_iconst (v := 2) hx hb dJ6_bitCount_0f7a4_16 (by decide) ?_
  refine lv_iushr (v := (((a0 - (((a0 : Int32).toUInt32 >>> ((1 : Int32).toUInt32 &&& Int32.toUInt32 31)).toInt32 &&& 1431655765)) : Int32).toUInt32 >>> ((2 : Int32).toUInt32 &&& Int32.toUInt32 31)).toInt32) hx hb dJ6_bitCount_0f7a4_17 rfl ?_
  refine lv_ldcw hx hb hown (hts _ (g_us _ q_RJ6_266)) dJ6_bitCount_0f7a4_18 ?_
  refine lv_iand hx hb dJ6_bitCount_0f7a4_21 ?_
  refine lv_iadd hx hb dJ6_bitCount_0f7a4_22 ?_
  refine lv_istore_n (lv' := [(0, .int (((a0 - (((a0 : Int32).toUInt32 >>> ((1 : Int32).toUInt32 &&& Int32.toUInt32 31)).toInt32 &&& 1431655765)) &&& 858993459) + ((((a0 - (((a0 : Int32).toUInt32 >>> ((1 : Int32).toUInt32 &&& Int32.toUInt32 31)).toInt32 &&& 1431655765)) : Int32).toUInt32 >>> ((2 : Int32).toUInt32 &&& Int32.toUInt32 31)).toInt32 &&& 858993459)))]) hx hb dJ6_bitCount_0f7a4_23 rfl hl (by decide) rfl (fun ls hl => ?_)
  refine lv_iload_n hx hb dJ6_bitCount_0f7a4_24 rfl (lv_at hl 0 rfl) ?_
  refine lv_iload_n hx hb dJ6_bitCount_0f7a4_25 rfl (lv_at hl 0 rfl) ?_
  refine lv_iconst (v := 4) hx hb dJ6_bitCount_0f7a4_26 (by decide) ?_
  refine lv_iushr (v := (((((a0 - (((a0 : Int32).toUInt32 >>> ((1 : Int32).toUInt32 &&& Int32.toUInt32 31)).toInt32 &&& 1431655765)) &&& 858993459) + ((((a0 - (((a0 : Int32).toUInt32 >>> ((1 : Int32).toUInt32 &&& Int32.toUInt32 31)).toInt32 &&& 1431655765)) : Int32).toUInt32 >>> ((2 : Int32).toUInt32 &&& Int32.toUInt32 31)).toInt32 &&& 858993459)) : Int32).toUInt32 >>> ((4 : Int32).toUInt32 &&& Int32.toUInt32 31)).toInt32) hx hb dJ6_bitCount_0f7a4_27 rfl ?_
  refine lv_iadd hx hb dJ6_bitCount_0f7a4_28 ?_
  refine lv_ldcw hx hb hown (hts _ (g_us _ q_RJ6_267)) dJ6_bitCount_0f7a4_29 ?_
  refine lv_iand hx hb dJ6_bitCount_0f7a4_32 ?_
  refine lv_istore_n (lv' := [(0, .int (((((a0 - (((a0 : Int32).toUInt32 >>> ((1 : Int32).toUInt32 &&& Int32.toUInt32 31)).toInt32 &&& 1431655765)) &&& 858993459) + ((((a0 - (((a0 : Int32).toUInt32 >>> ((1 : Int32).toUInt32 &&& Int32.toUInt32 31)).toInt32 &&& 1431655765)) : Int32).toUInt32 >>> ((2 : Int32).toUInt32 &&& Int32.toUInt32 31)).toInt32 &&& 858993459)) + (((((a0 - (((a0 : Int32).toUInt32 >>> ((1 : Int32).toUInt32 &&& Int32.toUInt32 31)).toInt32 &&& 1431655765)) &&& 858993459) + ((((a0 - (((a0 : Int32).toUInt32 >>> ((1 : Int32).toUInt32 &&& Int32.toUInt32 31)).toInt32 &&& 1431655765)) : Int32).toUInt32 >>> ((2 : Int32).toUInt32 &&& Int32.toUInt32 31)).toInt32 &&& 858993459)) : Int32).toUInt32 >>> ((4 : Int32).toUInt32 &&& Int32.toUInt32 31)).toInt32) &&& 252645135))]) hx hb dJ6_bitCount_0f7a4_33 rfl hl (by decide) rfl (fun ls hl => ?_)
  refine lv_iload_n hx hb dJ6_bitCount_0f7a4_34 rfl (lv_at hl 0 rfl) ?_
  refine lv_iload_n hx hb dJ6_bitCount_0f7a4_35 rfl (lv_at hl 0 rfl) ?_
  refine lv_bipush (v := 8) hx hb dJ6_bitCount_0f7a4_36 (by decide) ?_
  refine lv_iushr (v := (((((((a0 - (((a0 : Int32).toUInt32 >>> ((1 : Int32).toUInt32 &&& Int32.toUInt32 31)).toInt32 &&& 1431655765)) &&& 858993459) + ((((a0 - (((a0 : Int32).toUInt32 >>> ((1 : Int32).toUInt32 &&& Int32.toUInt32 31)).toInt32 &&& 1431655765)) : Int32).toUInt32 >>> ((2 : Int32).toUInt32 &&& Int32.toUInt32 31)).toInt32 &&& 858993459)) + (((((a0 - (((a0 : Int32).toUInt32 >>> ((1 : Int32).toUInt32 &&& Int32.toUInt32 31)).toInt32 &&& 1431655765)) &&& 858993459) + ((((a0 - (((a0 : Int32).toUInt32 >>> ((1 : Int32).toUInt32 &&& Int32.toUInt32 31)).toInt32 &&& 1431655765)) : Int32).toUInt32 >>> ((2 : Int32).toUInt32 &&& Int32.toUInt32 31)).toInt32 &&& 858993459)) : Int32).toUInt32 >>> ((4 : Int32).toUInt32 &&& Int32.toUInt32 31)).toInt32) &&& 252645135) : Int32).toUInt32 >>> ((8 : Int32).toUInt32 &&& Int32.toUInt32 31)).toInt32) hx hb dJ6_bitCount_0f7a4_38 rfl ?_
  refine lv_iadd hx hb dJ6_bitCount_0f7a4_39 ?_
  refine lv_istore_n (lv' := [(0, .int ((((((a0 - (((a0 : Int32).toUInt32 >>> ((1 : Int32).toUInt32 &&& Int32.toUInt32 31)).toInt32 &&& 1431655765)) &&& 858993459) + ((((a0 - (((a0 : Int32).toUInt32 >>> ((1 : Int32).toUInt32 &&& Int32.toUInt32 31)).toInt32 &&& 1431655765)) : Int32).toUInt32 >>> ((2 : Int32).toUInt32 &&& Int32.toUInt32 31)).toInt32 &&& 858993459)) + (((((a0 - (((a0 : Int32).toUInt32 >>> ((1 : Int32).toUInt32 &&& Int32.toUInt32 31)).toInt32 &&& 1431655765)) &&& 858993459) + ((((a0 - (((a0 : Int32).toUInt32 >>> ((1 : Int32).toUInt32 &&& Int32.toUInt32 31)).toInt32 &&& 1431655765)) : Int32).toUInt32 >>> ((2 : Int32).toUInt32 &&& Int32.toUInt32 31)).toInt32 &&& 858993459)) : Int32).toUInt32 >>> ((4 : Int32).toUInt32 &&& Int32.toUInt32 31)).toInt32) &&& 252645135) + (((((((a0 - (((a0 : Int32).toUInt32 >>> ((1 : Int32).toUInt32 &&& Int32.toUInt32 31)).toInt32 &&& 1431655765)) &&& 858993459) + ((((a0 - (((a0 : Int32).toUInt32 >>> ((1 : Int32).toUInt32 &&& Int32.toUInt32 31)).toInt32 &&& 1431655765)) : Int32).toUInt32 >>> ((2 : Int32).toUInt32 &&& Int32.toUInt32 31)).toInt32 &&& 858993459)) + (((((a0 - (((a0 : Int32).toUInt32 >>> ((1 : Int32).toUInt32 &&& Int32.toUInt32 31)).toInt32 &&& 1431655765)) &&& 858993459) + ((((a0 - (((a0 : Int32).toUInt32 >>> ((1 : Int32).toUInt32 &&& Int32.toUInt32 31)).toInt32 &&& 1431655765)) : Int32).toUInt32 >>> ((2 : Int32).toUInt32 &&& Int32.toUInt32 31)).toInt32 &&& 858993459)) : Int32).toUInt32 >>> ((4 : Int32).toUInt32 &&& Int32.toUInt32 31)).toInt32) &&& 252645135) : Int32).toUInt32 >>> ((8 : Int32).toUInt32 &&& Int32.toUInt32 31)).toInt32))]) hx hb dJ6_bitCount_0f7a4_40 rfl hl (by decide) rfl (fun ls hl => ?_)
  refine lv_iload_n hx hb dJ6_bitCount_0f7a4_41 rfl (lv_at hl 0 rfl) ?_
  refine lv_iload_n hx hb dJ6_bitCount_0f7a4_42 rfl (lv_at hl 0 rfl) ?_
  refine lv_bipush (v := 16) hx hb dJ6_bitCount_0f7a4_43 (by decide) ?_
  refine lv_iushr (v := ((((((((a0 - (((a0 : Int32).toUInt32 >>> ((1 : Int32).toUInt32 &&& Int32.toUInt32 31)).toInt32 &&& 1431655765)) &&& 858993459) + ((((a0 - (((a0 : Int32).toUInt32 >>> ((1 : Int32).toUInt32 &&& Int32.toUInt32 31)).toInt32 &&& 1431655765)) : Int32).toUInt32 >>> ((2 : Int32).toUInt32 &&& Int32.toUInt32 31)).toInt32 &&& 858993459)) + (((((a0 - (((a0 : Int32).toUInt32 >>> ((1 : Int32).toUInt32 &&& Int32.toUInt32 31)).toInt32 &&& 1431655765)) &&& 858993459) + ((((a0 - (((a0 : Int32).toUInt32 >>> ((1 : Int32).toUInt32 &&& Int32.toUInt32 31)).toInt32 &&& 1431655765)) : Int32).toUInt32 >>> ((2 : Int32).toUInt32 &&& Int32.toUInt32 31)).toInt32 &&& 858993459)) : Int32).toUInt32 >>> ((4 : Int32).toUInt32 &&& Int32.toUInt32 31)).toInt32) &&& 252645135) + (((((((a0 - (((a0 : Int32).toUInt32 >>> ((1 : Int32).toUInt32 &&& Int32.toUInt32 31)).toInt32 &&& 1431655765)) &&& 858993459) + ((((a0 - (((a0 : Int32).toUInt32 >>> ((1 : Int32).toUInt32 &&& Int32.toUInt32 31)).toInt32 &&& 1431655765)) : Int32).toUInt32 >>> ((2 : Int32).toUInt32 &&& Int32.toUInt32 31)).toInt32 &&& 858993459)) + (((((a0 - (((a0 : Int32).toUInt32 >>> ((1 : Int32).toUInt32 &&& Int32.toUInt32 31)).toInt32 &&& 1431655765)) &&& 858993459) + ((((a0 - (((a0 : Int32).toUInt32 >>> ((1 : Int32).toUInt32 &&& Int32.toUInt32 31)).toInt32 &&& 1431655765)) : Int32).toUInt32 >>> ((2 : Int32).toUInt32 &&& Int32.toUInt32 31)).toInt32 &&& 858993459)) : Int32).toUInt32 >>> ((4 : Int32).toUInt32 &&& Int32.toUInt32 31)).toInt32) &&& 252645135) : Int32).toUInt32 >>> ((8 : Int32).toUInt32 &&& Int32.toUInt32 31)).toInt32) : Int32).toUInt32 >>> ((16 : Int32).toUInt32 &&& Int32.toUInt32 31)).toInt32) hx hb dJ6_bitCount_0f7a4_45 rfl ?_
  refine lv_iadd hx hb dJ6_bitCount_0f7a4_46 ?_
  refine lv_istore_n (lv' := [(0, .int (((((((a0 - (((a0 : Int32).toUInt32 >>> ((1 : Int32).toUInt32 &&& Int32.toUInt32 31)).toInt32 &&& 1431655765)) &&& 858993459) + ((((a0 - (((a0 : Int32).toUInt32 >>> ((1 : Int32).toUInt32 &&& Int32.toUInt32 31)).toInt32 &&& 1431655765)) : Int32).toUInt32 >>> ((2 : Int32).toUInt32 &&& Int32.toUInt32 31)).toInt32 &&& 858993459)) + (((((a0 - (((a0 : Int32).toUInt32 >>> ((1 : Int32).toUInt32 &&& Int32.toUInt32 31)).toInt32 &&& 1431655765)) &&& 858993459) + ((((a0 - (((a0 : Int32).toUInt32 >>> ((1 : Int32).toUInt32 &&& Int32.toUInt32 31)).toInt32 &&& 1431655765)) : Int32).toUInt32 >>> ((2 : Int32).toUInt32 &&& Int32.toUInt32 31)).toInt32 &&& 858993459)) : Int32).toUInt32 >>> ((4 : Int32).toUInt32 &&& Int32.toUInt32 31)).toInt32) &&& 252645135) + (((((((a0 - (((a0 : Int32).toUInt32 >>> ((1 : Int32).toUInt32 &&& Int32.toUInt32 31)).toInt32 &&& 1431655765)) &&& 858993459) + ((((a0 - (((a0 : Int32).toUInt32 >>> ((1 : Int32).toUInt32 &&& Int32.toUInt32 31)).toInt32 &&& 1431655765)) : Int32).toUInt32 >>> ((2 : Int32).toUInt32 &&& Int32.toUInt32 31)).toInt32 &&& 858993459)) + (((((a0 - (((a0 : Int32).toUInt32 >>> ((1 : Int32).toUInt32 &&& Int32.toUInt32 31)).toInt32 &&& 1431655765)) &&& 858993459) + ((((a0 - (((a0 : Int32).toUInt32 >>> ((1 : Int32).toUInt32 &&& Int32.toUInt32 31)).toInt32 &&& 1431655765)) : Int32).toUInt32 >>> ((2 : Int32).toUInt32 &&& Int32.toUInt32 31)).toInt32 &&& 858993459)) : Int32).toUInt32 >>> ((4 : Int32).toUInt32 &&& Int32.toUInt32 31)).toInt32) &&& 252645135) : Int32).toUInt32 >>> ((8 : Int32).toUInt32 &&& Int32.toUInt32 31)).toInt32) + ((((((((a0 - (((a0 : Int32).toUInt32 >>> ((1 : Int32).toUInt32 &&& Int32.toUInt32 31)).toInt32 &&& 1431655765)) &&& 858993459) + ((((a0 - (((a0 : Int32).toUInt32 >>> ((1 : Int32).toUInt32 &&& Int32.toUInt32 31)).toInt32 &&& 1431655765)) : Int32).toUInt32 >>> ((2 : Int32).toUInt32 &&& Int32.toUInt32 31)).toInt32 &&& 858993459)) + (((((a0 - (((a0 : Int32).toUInt32 >>> ((1 : Int32).toUInt32 &&& Int32.toUInt32 31)).toInt32 &&& 1431655765)) &&& 858993459) + ((((a0 - (((a0 : Int32).toUInt32 >>> ((1 : Int32).toUInt32 &&& Int32.toUInt32 31)).toInt32 &&& 1431655765)) : Int32).toUInt32 >>> ((2 : Int32).toUInt32 &&& Int32.toUInt32 31)).toInt32 &&& 858993459)) : Int32).toUInt32 >>> ((4 : Int32).toUInt32 &&& Int32.toUInt32 31)).toInt32) &&& 252645135) + (((((((a0 - (((a0 : Int32).toUInt32 >>> ((1 : Int32).toUInt32 &&& Int32.toUInt32 31)).toInt32 &&& 1431655765)) &&& 858993459) + ((((a0 - (((a0 : Int32).toUInt32 >>> ((1 : Int32).toUInt32 &&& Int32.toUInt32 31)).toInt32 &&& 1431655765)) : Int32).toUInt32 >>> ((2 : Int32).toUInt32 &&& Int32.toUInt32 31)).toInt32 &&& 858993459)) + (((((a0 - (((a0 : Int32).toUInt32 >>> ((1 : Int32).toUInt32 &&& Int32.toUInt32 31)).toInt32 &&& 1431655765)) &&& 858993459) + ((((a0 - (((a0 : Int32).toUInt32 >>> ((1 : Int32).toUInt32 &&& Int32.toUInt32 31)).toInt32 &&& 1431655765)) : Int32).toUInt32 >>> ((2 : Int32).toUInt32 &&& Int32.toUInt32 31)).toInt32 &&& 858993459)) : Int32).toUInt32 >>> ((4 : Int32).toUInt32 &&& Int32.toUInt32 31)).toInt32) &&& 252645135) : Int32).toUInt32 >>> ((8 : Int32).toUInt32 &&& Int32.toUInt32 31)).toInt32) : Int32).toUInt32 >>> ((16 : Int32).toUInt32 &&& Int32.toUInt32 31)).toInt32))]) hx hb dJ6_bitCount_0f7a4_47 rfl hl (by decide) rfl (fun ls hl => ?_)
  refine lv_iload_n hx hb dJ6_bitCount_0f7a4_48 rfl (lv_at hl 0 rfl) ?_
  refine lv_bipush (v := 63) hx hb dJ6_bitCount_0f7a4_49 (by decide) ?_
  refine lv_iand hx hb dJ6_bitCount_0f7a4_51 ?_
  obtain rfl := so1 hf
  exact kR _ _ _ _ hW dJ6_bitCount_0f7a4_52

abbrev rm_X3_lostOf : Room := { frames := 2, cells := 0, slots := 0, locals := 80 }
set_option maxHeartbeats 4000000 in
set_option maxRecDepth 100000 in
theorem c_X3_lostOf (l : Launch) (E : En) (S : St) (a1 : Int32) (a2 : Int32) (r : Int32) (hf : X3_lostOf S a1 a2 = some r) : Mi l E yX3_lostOf cX3_lostOf 9 (some .int) rm_X3_lostOf [.ref (E.ad 8), .int a1, .int a2] S r S := by
  refine g_startI (cc := cX3_lostOf) (n := 9) (by decide) (Nat.le_of_ble_eq_true rfl) ?_
  intro p e s m args below meth c Q H locs C kR hW ls hl
  obtain ⟨⟨hx, hb, hml, hown, hts⟩, hK, hT⟩ := id C
  have hl : lv_has ls 9 [(0, .ref (E.ad 8)), (1, .int a1), (2, .int a2)] := hl
  have X3_lostOf_L5_c : ∀ (S : St) (v1 : Int32) (v2 : Int32) (res : Int32) (n : Nat) (v3 : Int32) (v4 : Int32) (H : Heap) (locs : List Loc) (ls : Array Slot), Ww E S s H locs → lv_has ls 9 [(0, .ref (E.ad 8)), (1, .int v1), (2, .int v2), (3, .int v3), (4, .int v4)] → X3_lostOf_L5 S v1 v2 n v3 v4 = some res → (∀ (w3 : Int32) (H : Heap) (locs : List Loc) (ls : Array Slot), some w3 = some res → Ww E S s H locs → lv_has ls 9 [(3, .int w3)] → W p l e rm_X3_lostOf s m args below meth c H locs 0 0 Q (F0 m 110 ls [])) → W p l e rm_X3_lostOf s m args below meth c H locs 0 0 Q (F0 m 5 ls []) := by
    intro S v1 v2 res n
    induction n with
    | zero =>
      intro v3 v4 H locs ls hW hl hf
      cases hf
    | succ n ih =>
      intro v3 v4 H locs ls hW hl hf kE
      unfold X3_lostOf_L5 at hf
      refine lv_iload hx hb dX3_lostOf_5 (lv_at hl 4 rfl) ?_
      refine lv_bipush (v := 24) hx hb dX3_lostOf_7 (by decide) ?_
      refine lv_icmp_ge (tgt := 110) hx hb dX3_lostOf_9 (by decide) (fun c1 => ?_) (fun c1 => ?_)
      · replace hf := ift_ hf c1
        exact kE _ _ _ _ hf hW (lv_sub hl [3] rfl)
      · replace hf := iff_ hf c1
        refine lv_iload hx hb dX3_lostOf_12 (lv_at hl 4 rfl) ?_
        refine lv_iload_n hx hb dX3_lostOf_14 rfl (lv_at hl 2 rfl) ?_
        refine lv_imul hx hb dX3_lostOf_15 ?_
        refine lv_bipush (v := 24) hx hb dX3_lostOf_16 (by decide) ?_
        refine lv_icmp_ge (tgt := 110) hx hb dX3_lostOf_18 (by decide) (fun c2 => ?_) (fun c2 => ?_)
        · replace hf := ift_ hf c2
          exact kE _ _ _ _ hf hW (lv_sub hl [3] rfl)
        · replace hf := iff_ hf c2
          refine lv_bipush (v := 24) hx hb dX3_lostOf_21 (by decide) ?_
          refine lv_iload hx hb dX3_lostOf_23 (lv_at hl 4 rfl) ?_
          refine lv_iload_n hx hb dX3_lostOf_25 rfl (lv_at hl 2 rfl) ?_
          refine lv_imul hx hb dX3_lostOf_26 ?_
          refine lv_iload_n hx hb dX3_lostOf_27 rfl (lv_at hl 2 rfl) ?_
          refine lv_iadd hx hb dX3_lostOf_28 ?_
          refine g_min C g_us hl.1 k_RX3_25 (Nat.le_of_ble_eq_true rfl) (Nat.le_of_ble_eq_true rfl) ⟨Nat.zero_le _, Nat.zero_le _⟩ dX3_lostOf_29 ?_
          refine lv_istore (lv' := [(5, .int (if ((v4 * v2) + v2) < 24 then ((v4 * v2) + v2) else 24)), (0, .ref (E.ad 8)), (1, .int v1), (2, .int v2), (3, .int v3), (4, .int v4)]) hx hb dX3_lostOf_32 hl (by decide) rfl (fun ls hl => ?_)
          refine lv_iconst (v := 1) hx hb dX3_lostOf_34 (by decide) ?_
          refine lv_iload hx hb dX3_lostOf_35 (lv_at hl 0 rfl) ?_
          refine lv_ishl hx hb dX3_lostOf_37 ?_
          refine lv_iconst (v := 1) hx hb dX3_lostOf_38 (by decide) ?_
          refine lv_iload hx hb dX3_lostOf_39 (lv_at hl 5 rfl) ?_
          refine lv_iload_n hx hb dX3_lostOf_41 rfl (lv_at hl 3 rfl) ?_
          refine lv_imul hx hb dX3_lostOf_42 ?_
          refine lv_ishl hx hb dX3_lostOf_43 ?_
          refine lv_isub hx hb dX3_lostOf_44 ?_
          refine lv_istore (lv' := [(6, .int ((1 <<< ((if ((v4 * v2) + v2) < 24 then ((v4 * v2) + v2) else 24) &&& 31)) - (1 <<< ((v4 * v2) &&& 31)))), (5, .int (if ((v4 * v2) + v2) < 24 then ((v4 * v2) + v2) else 24)), (0, .ref (E.ad 8)), (1, .int v1), (2, .int v2), (3, .int v3), (4, .int v4)]) hx hb dX3_lostOf_45 hl (by decide) rfl (fun ls hl => ?_)
          refine lv_aload_n hx hb dX3_lostOf_47 rfl (lv_at hl 2 rfl) ?_
          refine g_get (ci := 3) (k := 1) (val := .ref (E.ad 9)) C g_us hW rfl rfl rfl (in_sid _ rfl) (by decide) f_RX3_9 rfl dX3_lostOf_48 ?_
          refine lv_iload_n hx hb dX3_lostOf_51 rfl (lv_at hl 3 rfl) ?_
          replace hf := bd_so hf
          obtain ⟨x3, h4, hf⟩ := hf
          refine g_lald C hW h4 dX3_lostOf_52 ?_
          refine lv_l2i (v := (x3 : Int64).toInt32) hx hb dX3_lostOf_53 rfl ?_
          refine lv_iload hx hb dX3_lostOf_54 (lv_at hl 0 rfl) ?_
          refine lv_iand hx hb dX3_lostOf_56 ?_
          refine lv_istore (lv' := [(7, .int ((x3 : Int64).toInt32 &&& ((1 <<< ((if ((v4 * v2) + v2) < 24 then ((v4 * v2) + v2) else 24) &&& 31)) - (1 <<< ((v4 * v2) &&& 31))))), (6, .int ((1 <<< ((if ((v4 * v2) + v2) < 24 then ((v4 * v2) + v2) else 24) &&& 31)) - (1 <<< ((v4 * v2) &&& 31)))), (5, .int (if ((v4 * v2) + v2) < 24 then ((v4 * v2) + v2) else 24)), (0, .ref (E.ad 8)), (1, .int v1), (2, .int v2), (3, .int v3), (4, .int v4)]) hx hb dX3_lostOf_57 hl (by decide) rfl (fun ls hl => ?_)
          refine lv_aload_n hx hb dX3_lostOf_59 rfl (lv_at hl 3 rfl) ?_
          refine g_get (ci := 3) (k := 1) (val := .ref (E.ad 9)) C g_us hW rfl rfl rfl (in_sid _ rfl) (by decide) f_RX3_9 rfl dX3_lostOf_60 ?_
          refine lv_iload_n hx hb dX3_lostOf_63 rfl (lv_at hl 4 rfl) ?_
          replace hf := bd_so hf
          obtain ⟨x5, h6, hf⟩ := hf
          refine g_lald C hW h6 dX3_lostOf_64 ?_
          refine lv_bipush (v := 24) hx hb dX3_lostOf_65 (by decide) ?_
          refine lv_iload hx hb dX3_lostOf_67 (lv_at hl 7 rfl) ?_
          refine lv_iadd hx hb dX3_lostOf_69 ?_
          refine lv_lshr (v := (x5 >>> (((24 + v4) : Int32).toInt64 &&& 63))) hx hb dX3_lostOf_70 rfl ?_
          refine lv_lconst (v := 1) hx hb dX3_lostOf_71 (by decide) ?_
          refine lv_land hx hb dX3_lostOf_72 ?_
          refine lv_lconst (v := 0) hx hb dX3_lostOf_73 (by decide) ?_
          refine W.lcmp hx hb dX3_lostOf_74 ?_
          replace hf := bd_so hf
          obtain ⟨x8, h9, hf⟩ := hf
          have J10 : ∀ (H : Heap) (locs : List Loc) (ls : Array Slot), Ww E S s H locs → lv_has ls 9 [(0, .ref (E.ad 8)), (1, .int v1), (2, .int v2), (3, .int v3), (4, .int v4), (7, .int ((x3 : Int64).toInt32 &&& ((1 <<< ((if ((v4 * v2) + v2) < 24 then ((v4 * v2) + v2) else 24) &&& 31)) - (1 <<< ((v4 * v2) &&& 31)))))] → W p l e rm_X3_lostOf s m args below meth c H locs 0 0 Q (F0 m 83 ls [.int x8]) := by
            intro H locs ls hW hl
            refine lv_istore (lv' := [(8, .int x8), (0, .ref (E.ad 8)), (1, .int v1), (2, .int v2), (3, .int v3), (4, .int v4), (7, .int ((x3 : Int64).toInt32 &&& ((1 <<< ((if ((v4 * v2) + v2) < 24 then ((v4 * v2) + v2) else 24) &&& 31)) - (1 <<< ((v4 * v2) &&& 31)))))]) hx hb dX3_lostOf_83 hl (by decide) rfl (fun ls hl => ?_)
            refine lv_iload hx hb dX3_lostOf_85 (lv_at hl 0 rfl) ?_
            replace hf := bd_so hf
            obtain ⟨x12, h13, hf⟩ := hf
            have J14 : ∀ (H : Heap) (locs : List Loc) (ls : Array Slot), Ww E S s H locs → lv_has ls 9 [(0, .ref (E.ad 8)), (1, .int v1), (2, .int v2), (3, .int x12), (4, .int v4)] → W p l e rm_X3_lostOf s m args below meth c H locs 0 0 Q (F0 m 104 ls []) := by
              intro H locs ls hW hl
              refine lv_iinc (v := (v4 + 1)) (lv' := [(4, .int (v4 + 1)), (0, .ref (E.ad 8)), (1, .int v1), (2, .int v2), (3, .int x12)]) hx hb dX3_lostOf_104 hl (k := 4) rfl rfl (by decide) rfl (fun ls hl => ?_)
              refine lv_goto (tgt := 5) hx hb dX3_lostOf_107 (by decide) ?_
              exact ih _ _ _ _ _ hW (lv_sub hl [1, 2, 3, 4, 0] rfl) hf kE
            clear hf
            have hf := h13
            clear h13
            refine lv_if_ne (tgt := 99) hx hb dX3_lostOf_87 (by decide) (fun c11 => ?_) (fun c11 => ?_)
            · replace hf := iff_ hf c11
              refine lv_iload_n hx hb dX3_lostOf_99 rfl (lv_at hl 4 rfl) ?_
              refine lv_iload hx hb dX3_lostOf_100 (lv_at hl 6 rfl) ?_
              refine lv_ior hx hb dX3_lostOf_102 ?_
              refine lv_istore_n (lv' := [(3, .int (v3 ||| ((x3 : Int64).toInt32 &&& ((1 <<< ((if ((v4 * v2) + v2) < 24 then ((v4 * v2) + v2) else 24) &&& 31)) - (1 <<< ((v4 * v2) &&& 31)))))), (8, .int x8), (0, .ref (E.ad 8)), (1, .int v1), (2, .int v2), (4, .int v4), (7, .int ((x3 : Int64).toInt32 &&& ((1 <<< ((if ((v4 * v2) + v2) < 24 then ((v4 * v2) + v2) else 24) &&& 31)) - (1 <<< ((v4 * v2) &&& 31)))))]) hx hb dX3_lostOf_103 rfl hl (by decide) rfl (fun ls hl => ?_)
              obtain rfl := so1 hf
              exact J14 _ _ _ hW (lv_sub hl [2, 3, 4, 0, 5] rfl)
            · replace hf := ift_ hf c11
              refine lv_iload hx hb dX3_lostOf_90 (lv_at hl 6 rfl) ?_
              replace hf := bd_so hf
              obtain ⟨x16, h15, hf⟩ := hf
              refine g_callSi (As := [.int ((x3 : Int64).toInt32 &&& ((1 <<< ((if ((v4 * v2) + v2) < 24 then ((v4 * v2) + v2) else 24) &&& 31)) - (1 <<< ((v4 * v2) &&& 31))))]) (rest := []) C g_us hW hl.1 (c_J6_bitCount_0f7a4 l E S ((x3 : Int64).toInt32 &&& ((1 <<< ((if ((v4 * v2) + v2) < 24 then ((v4 * v2) + v2) else 24) &&& 31)) - (1 <<< ((v4 * v2) &&& 31)))) _ h15) k_RX3_31 rfl ⟨rfl, rfl⟩ ⟨Nat.le_of_ble_eq_true rfl, Nat.le_of_ble_eq_true rfl⟩ ⟨Nat.zero_le _, Nat.zero_le _⟩ _ rfl (Nat.le_of_ble_eq_true rfl) dX3_lostOf_92 (fun H locs hW => ?_)
              refine lv_iconst (v := 1) hx hb dX3_lostOf_95 (by decide) ?_
              refine lv_icmp_le (tgt := 104) hx hb dX3_lostOf_96 (by decide) (fun c17 => ?_) (fun c17 => ?_)
              · replace hf := ift_ hf c17
                obtain rfl := so1 hf
                exact J14 _ _ _ hW (lv_sub hl [1, 2, 3, 4, 5] rfl)
              · replace hf := iff_ hf c17
                refine lv_iload_n hx hb dX3_lostOf_99 rfl (lv_at hl 4 rfl) ?_
                refine lv_iload hx hb dX3_lostOf_100 (lv_at hl 6 rfl) ?_
                refine lv_ior hx hb dX3_lostOf_102 ?_
                refine lv_istore_n (lv' := [(3, .int (v3 ||| ((x3 : Int64).toInt32 &&& ((1 <<< ((if ((v4 * v2) + v2) < 24 then ((v4 * v2) + v2) else 24) &&& 31)) - (1 <<< ((v4 * v2) &&& 31)))))), (8, .int x8), (0, .ref (E.ad 8)), (1, .int v1), (2, .int v2), (4, .int v4), (7, .int ((x3 : Int64).toInt32 &&& ((1 <<< ((if ((v4 * v2) + v2) < 24 then ((v4 * v2) + v2) else 24) &&& 31)) - (1 <<< ((v4 * v2) &&& 31)))))]) hx hb dX3_lostOf_103 rfl hl (by decide) rfl (fun ls hl => ?_)
                obtain rfl := so1 hf
                exact J14 _ _ _ hW (lv_sub hl [2, 3, 4, 0, 5] rfl)
          clear hf
          have hf := h9
          clear h9
          refine lv_if_eq (tgt := 82) hx hb dX3_lostOf_75 (by decide) (fun c7 => ?_) (fun c7 => ?_)
          · replace hf := ift_ hf c7
            refine lv_iconst (v := 0) hx hb dX3_lostOf_82 (by decide) ?_
            obtain rfl := so1 hf
            exact J10 _ _ _ hW (lv_sub hl [3, 4, 5, 6, 7, 0] rfl)
          · replace hf := iff_ hf c7
            refine lv_iconst (v := 1) hx hb dX3_lostOf_78 (by decide) ?_
            refine lv_goto (tgt := 83) hx hb dX3_lostOf_79 (by decide) ?_
            obtain rfl := so1 hf
            exact J10 _ _ _ hW (lv_sub hl [3, 4, 5, 6, 7, 0] rfl)
  unfold X3_lostOf at hf
  refine lv_iconst (v := 0) hx hb dX3_lostOf_0 (by decide) ?_
  refine lv_istore_n (lv' := [(3, .int 0), (0, .ref (E.ad 8)), (1, .int a1), (2, .int a2)]) hx hb dX3_lostOf_1 rfl hl (by decide) rfl (fun ls hl => ?_)
  refine lv_iconst (v := 0) hx hb dX3_lostOf_2 (by decide) ?_
  refine lv_istore (lv' := [(4, .int 0), (3, .int 0), (0, .ref (E.ad 8)), (1, .int a1), (2, .int a2)]) hx hb dX3_lostOf_3 hl (by decide) rfl (fun ls hl => ?_)
  replace hf := bd_so hf
  obtain ⟨x18, h19, hf⟩ := hf
  have J20 : ∀ (H : Heap) (locs : List Loc) (ls : Array Slot), Ww E S s H locs → lv_has ls 9 [(3, .int x18)] → W p l e rm_X3_lostOf s m args below meth c H locs 0 0 Q (F0 m 110 ls []) := by
    intro H locs ls hW hl
    refine lv_iload_n hx hb dX3_lostOf_110 rfl (lv_at hl 0 rfl) ?_
    obtain rfl := so1 hf
    exact kR _ _ _ _ hW dX3_lostOf_111
  exact X3_lostOf_L5_c _ _ _ _ FU _ _ _ _ _ hW (lv_sub hl [2, 3, 4, 1, 0] rfl) h19 (fun _ H locs ls e hW hl => by cases e; exact J20 H locs ls hW hl)

abbrev rm_X3_losesNothing : Room := { frames := 3, cells := 0, slots := 0, locals := 108 }
set_option maxHeartbeats 4000000 in
set_option maxRecDepth 100000 in
theorem c_X3_losesNothing (l : Launch) (E : En) (S : St) (a1 : Int32) (r : Int32) (hf : X3_losesNothing S a1 = some r) : Mi l E yX3_losesNothing cX3_losesNothing 3 (some .boolean) rm_X3_losesNothing [.ref (E.ad 8), .int a1] S r S := by
  refine g_startZ (cc := cX3_losesNothing) (n := 3) (by decide) (Nat.le_of_ble_eq_true rfl) ?_
  intro p e s m args below meth c Q H locs C kR hW ls hl
  obtain ⟨⟨hx, hb, hml, hown, hts⟩, hK, hT⟩ := id C
  have hl : lv_has ls 3 [(0, .ref (E.ad 8)), (1, .int a1)] := hl
  have X3_losesNothing_L2_c : ∀ (S : St) (v1 : Int32) (res : (Unit) ⊕ (Int32)) (n : Nat) (v2 : Int32) (H : Heap) (locs : List Loc) (ls : Array Slot), Ww E S s H locs → lv_has ls 3 [(0, .ref (E.ad 8)), (1, .int v1), (2, .int v2)] → X3_losesNothing_L2 S v1 n v2 = some res → (∀ (H : Heap) (locs : List Loc) (ls : Array Slot), some (.inl ()) = some res → Ww E S s H locs → lv_has ls 3 [] → W p l e rm_X3_losesNothing s m args below meth c H locs 0 0 Q (F0 m 27 ls [])) → (∀ (r0 : Int32) (H : Heap) (locs : List Loc) (pc : Nat) (ls : Array Slot), some (.inr r0) = some res → Ww E S s H locs → (r0 = 0 ∨ r0 = 1) → decode cX3_losesNothing pc = .ok (.ireturn, 1) → W p l e rm_X3_losesNothing s m args below meth c H locs 0 0 Q (F0 m pc ls [.int r0])) → W p l e rm_X3_losesNothing s m args below meth c H locs 0 0 Q (F0 m 2 ls []) := by
    intro S v1 res n
    induction n with
    | zero =>
      intro v2 H locs ls hW hl hf
      cases hf
    | succ n ih =>
      intro v2 H locs ls hW hl hf kE kR
      unfold X3_losesNothing_L2 at hf
      refine lv_iload_n hx hb dX3_losesNothing_2 rfl (lv_at hl 2 rfl) ?_
      refine lv_aload_n hx hb dX3_losesNothing_3 rfl (lv_at hl 0 rfl) ?_
      refine g_get (ci := 3) (k := 0) (val := .int (rI S 8 0)) C g_us hW rfl rfl rfl (in_sid _ rfl) (by decide) f_RX3_15 rfl dX3_losesNothing_4 ?_
      refine lv_icmp_ge (tgt := 27) hx hb dX3_losesNothing_7 (by decide) (fun c1 => ?_) (fun c1 => ?_)
      · replace hf := ift_ hf c1
        exact kE  _ _ _ hf hW (lv_sub hl [] rfl)
      · replace hf := iff_ hf c1
        refine lv_aload_n hx hb dX3_losesNothing_10 rfl (lv_at hl 0 rfl) ?_
        refine lv_iload_n hx hb dX3_losesNothing_11 rfl (lv_at hl 2 rfl) ?_
        refine lv_iload_n hx hb dX3_losesNothing_12 rfl (lv_at hl 1 rfl) ?_
        replace hf := bd_so hf
        obtain ⟨x3, h2, hf⟩ := hf
        refine g_callVi (ci := 3) (As := [.int v2, .int v1]) (rest := []) C g_us hW hl.1 (c_X3_lostOf l E S v2 v1 _ h2) rfl rfl rfl (in_sid _ rfl) k_RX3_37 rfl ⟨rfl, rfl⟩ ⟨Nat.le_of_ble_eq_true rfl, Nat.le_of_ble_eq_true rfl⟩ ⟨Nat.zero_le _, Nat.zero_le _⟩ _ rfl (Nat.le_of_ble_eq_true rfl) dX3_losesNothing_13 (fun H locs hW => ?_)
        refine lv_if_eq (tgt := 21) hx hb dX3_losesNothing_16 (by decide) (fun c4 => ?_) (fun c4 => ?_)
        · replace hf := ift_ hf c4
          refine lv_iinc (v := (v2 + 1)) (lv' := [(2, .int (v2 + 1)), (0, .ref (E.ad 8)), (1, .int v1)]) hx hb dX3_losesNothing_21 hl (k := 2) rfl rfl (by decide) rfl (fun ls hl => ?_)
          refine lv_goto (tgt := 2) hx hb dX3_losesNothing_24 (by decide) ?_
          exact ih _ _ _ _ hW (lv_sub hl [1, 2, 0] rfl) hf kE kR
        · replace hf := iff_ hf c4
          refine lv_iconst (v := 0) hx hb dX3_losesNothing_19 (by decide) ?_
          exact kR _ _ _ _ _ hf hW (Or.inl rfl) dX3_losesNothing_20
  unfold X3_losesNothing at hf
  refine lv_iconst (v := 0) hx hb dX3_losesNothing_0 (by decide) ?_
  refine lv_istore_n (lv' := [(2, .int 0), (0, .ref (E.ad 8)), (1, .int a1)]) hx hb dX3_losesNothing_1 rfl hl (by decide) rfl (fun ls hl => ?_)
  replace hf := bd_so hf
  obtain ⟨t, h5, hf⟩ := hf
  rcases t with u | x7
  · dsimp only at hf
    have J6 : ∀ (H : Heap) (locs : List Loc) (ls : Array Slot), Ww E S s H locs → lv_has ls 3 [] → W p l e rm_X3_losesNothing s m args below meth c H locs 0 0 Q (F0 m 27 ls []) := by
      intro H locs ls hW hl
      refine lv_iconst (v := 1) hx hb dX3_losesNothing_27 (by decide) ?_
      obtain rfl := so1 hf
      exact kR _ _ _ _ hW (Or.inr rfl) dX3_losesNothing_28
    exact X3_losesNothing_L2_c _ _ _ FU _ _ _ _ hW (lv_sub hl [1, 2, 0] rfl) h5 (fun H locs ls e hW hl => by cases e; exact J6 H locs ls hW hl) (fun _ H locs pc ls e hW hz dd => by cases e)
  · dsimp only at hf
    refine X3_losesNothing_L2_c _ _ _ FU _ _ _ _ hW (lv_sub hl [1, 2, 0] rfl) h5 (fun H locs ls e hW hl => by cases e) (fun _ H locs pc ls e hW hz dd => ?_)
    cases e
    obtain rfl := so1 hf
    exact kR _ _ _ _ hW hz dd

abbrev rm_J7_fill_53178 : Room := { frames := 1, cells := 0, slots := 0, locals := 60 }
set_option maxHeartbeats 4000000 in
set_option maxRecDepth 100000 in
theorem c_J7_fill_53178 (l : Launch) (E : En) (S : St) (a0 : Nat) (a1 : Int32) (S1 : St) (hf : J7_fill_53178 S a0 a1 = some S1) : Mv l E yJ7_fill_53178 cJ7_fill_53178 4 none rm_J7_fill_53178 [.ref (E.ad a0), .int a1] S S1 := by
  refine g_startV (cc := cJ7_fill_53178) (n := 4) (by decide) (Nat.le_of_ble_eq_true rfl) ?_
  intro p e s m args below meth c Q H locs C kR hW ls hl
  obtain ⟨⟨hx, hb, hml, hown, hts⟩, hK, hT⟩ := id C
  have hl : lv_has ls 4 [(0, .ref (E.ad a0)), (1, .int a1)] := hl
  have J7_fill_53178_L5_c : ∀ (v0 : Nat) (v1 : Int32) (v3 : Int32) (res : St) (n : Nat) (v2 : Int32) (S : St) (H : Heap) (locs : List Loc) (ls : Array Slot), Ww E S s H locs → lv_has ls 4 [(0, .ref (E.ad v0)), (1, .int v1), (2, .int v2), (3, .int v3)] → J7_fill_53178_L5 v0 v1 v3 n v2 S = some res → (∀ (T : St) (H : Heap) (locs : List Loc) (ls : Array Slot), some T = some res → Ww E T s H locs → lv_has ls 4 [] → W p l e rm_J7_fill_53178 s m args below meth c H locs 0 0 Q (F0 m 20 ls [])) → W p l e rm_J7_fill_53178 s m args below meth c H locs 0 0 Q (F0 m 5 ls []) := by
    intro v0 v1 v3 res n
    induction n with
    | zero =>
      intro v2 S H locs ls hW hl hf
      cases hf
    | succ n ih =>
      intro v2 S H locs ls hW hl hf kE
      unfold J7_fill_53178_L5 at hf
      refine lv_iload_n hx hb dJ7_fill_53178_5 rfl (lv_at hl 2 rfl) ?_
      refine lv_iload_n hx hb dJ7_fill_53178_6 rfl (lv_at hl 3 rfl) ?_
      refine lv_icmp_ge (tgt := 20) hx hb dJ7_fill_53178_7 (by decide) (fun c3 => ?_) (fun c3 => ?_)
      · replace hf := ift_ hf c3
        exact kE _ _ _ _ hf hW (lv_sub hl [] rfl)
      · replace hf := iff_ hf c3
        refine lv_aload_n hx hb dJ7_fill_53178_10 rfl (lv_at hl 0 rfl) ?_
        refine lv_iload_n hx hb dJ7_fill_53178_11 rfl (lv_at hl 2 rfl) ?_
        refine lv_iload_n hx hb dJ7_fill_53178_12 rfl (lv_at hl 1 rfl) ?_
        replace hf := bd_so hf
        obtain ⟨S4, h5, hf⟩ := hf
        refine g_iast C hW h5 dJ7_fill_53178_13 (fun H locs hW => ?_)
        refine lv_iinc (v := (v2 + 1)) (lv' := [(2, .int (v2 + 1)), (0, .ref (E.ad v0)), (1, .int v1), (3, .int v3)]) hx hb dJ7_fill_53178_14 hl (k := 2) rfl rfl (by decide) rfl (fun ls hl => ?_)
        refine lv_goto (tgt := 5) hx hb dJ7_fill_53178_17 (by decide) ?_
        exact ih _ _ _ _ _ hW (lv_sub hl [1, 2, 0, 3] rfl) hf kE
  unfold J7_fill_53178 at hf
  refine lv_iconst (v := 0) hx hb dJ7_fill_53178_0 (by decide) ?_
  refine lv_istore_n (lv' := [(2, .int 0), (0, .ref (E.ad a0)), (1, .int a1)]) hx hb dJ7_fill_53178_1 rfl hl (by decide) rfl (fun ls hl => ?_)
  refine lv_aload_n hx hb dJ7_fill_53178_2 rfl (lv_at hl 1 rfl) ?_
  replace hf := bd_so hf
  obtain ⟨x1, h2, hf⟩ := hf
  refine g_alen C hW h2 dJ7_fill_53178_3 ?_
  refine lv_istore_n (lv' := [(3, .int x1), (2, .int 0), (0, .ref (E.ad a0)), (1, .int a1)]) hx hb dJ7_fill_53178_4 rfl hl (by decide) rfl (fun ls hl => ?_)
  replace hf := bd_so hf
  obtain ⟨S6, h7, hf⟩ := hf
  have J8 : ∀ (H : Heap) (locs : List Loc) (ls : Array Slot), Ww E S6 s H locs → lv_has ls 4 [] → W p l e rm_J7_fill_53178 s m args below meth c H locs 0 0 Q (F0 m 20 ls []) := by
    intro H locs ls hW hl
    obtain rfl := so1 hf
    exact kR _ _ _ _ hW dJ7_fill_53178_20
  exact J7_fill_53178_L5_c _ _ _ _ FU _ _ _ _ _ hW (lv_sub hl [2, 3, 1, 0] rfl) h7 (fun _ H locs ls e hW hl => by cases e; exact J8 H locs ls hW hl)

abbrev rm_X5_append : Room := { frames := 1, cells := 0, slots := 0, locals := 60 }
set_option maxHeartbeats 4000000 in
set_option maxRecDepth 100000 in
theorem c_X5_append (l : Launch) (E : En) (S : St) (a1 : Int32) (a2 : Int32) (a3 : Int32) (S1 : St) (hf : X5_append S a1 a2 a3 = some S1) : Mv l E yX5_append cX5_append 5 none rm_X5_append [.ref (E.ad 12), .int a1, .int a2, .int a3] S S1 := by
  refine g_startV (cc := cX5_append) (n := 5) (by decide) (Nat.le_of_ble_eq_true rfl) ?_
  intro p e s m args below meth c Q H locs C kR hW ls hl
  obtain ⟨⟨hx, hb, hml, hown, hts⟩, hK, hT⟩ := id C
  have hl : lv_has ls 5 [(0, .ref (E.ad 12)), (1, .int a1), (2, .int a2), (3, .int a3)] := hl
  have X5_append_L3_c : ∀ (v1 : Int32) (v2 : Int32) (v3 : Int32) (res : St) (n : Nat) (v4 : Int32) (S : St) (H : Heap) (locs : List Loc) (ls : Array Slot), Ww E S s H locs → lv_has ls 5 [(0, .ref (E.ad 12)), (1, .int v1), (2, .int v2), (3, .int v3), (4, .int v4)] → X5_append_L3 v1 v2 v3 n v4 S = some res → (∀ (T : St) (H : Heap) (locs : List Loc) (ls : Array Slot), some T = some res → Ww E T s H locs → lv_has ls 5 [] → W p l e rm_X5_append s m args below meth c H locs 0 0 Q (F0 m 54 ls [])) → W p l e rm_X5_append s m args below meth c H locs 0 0 Q (F0 m 3 ls []) := by
    intro v1 v2 v3 res n
    induction n with
    | zero =>
      intro v4 S H locs ls hW hl hf
      cases hf
    | succ n ih =>
      intro v4 S H locs ls hW hl hf kE
      unfold X5_append_L3 at hf
      refine lv_iload hx hb dX5_append_3 (lv_at hl 4 rfl) ?_
      refine lv_iload_n hx hb dX5_append_5 rfl (lv_at hl 2 rfl) ?_
      refine lv_icmp_ge (tgt := 54) hx hb dX5_append_6 (by decide) (fun c1 => ?_) (fun c1 => ?_)
      · replace hf := ift_ hf c1
        exact kE _ _ _ _ hf hW (lv_sub hl [] rfl)
      · replace hf := iff_ hf c1
        refine lv_aload_n hx hb dX5_append_9 rfl (lv_at hl 0 rfl) ?_
        refine g_get (ci := 5) (k := 1) (val := .ref (E.ad 13)) C g_us hW rfl rfl rfl (in_sid _ rfl) (by decide) f_RX5_9 rfl dX5_append_10 ?_
        refine lv_aload_n hx hb dX5_append_13 rfl (lv_at hl 0 rfl) ?_
        refine g_get (ci := 5) (k := 0) (val := .int (rI S 12 0)) C g_us hW rfl rfl rfl (in_sid _ rfl) (by decide) f_RX5_15 rfl dX5_append_14 ?_
        refine lv_iload_n hx hb dX5_append_17 rfl (lv_at hl 1 rfl) ?_
        refine lv_iload_n hx hb dX5_append_18 rfl (lv_at hl 3 rfl) ?_
        replace hf := bd_so hf
        obtain ⟨x3, h4, hf⟩ := hf
        have J5 : ∀ (H : Heap) (locs : List Loc) (ls : Array Slot), Ww E S s H locs → lv_has ls 5 [(0, .ref (E.ad 12)), (1, .int v1), (2, .int v2), (3, .int v3), (4, .int v4)] → W p l e rm_X5_append s m args below meth c H locs 0 0 Q (F0 m 36 ls [.int x3, .int v1, .int (rI S 12 0), .ref (E.ad 13)]) := by
          intro H locs ls hW hl
          refine lv_iadd hx hb dX5_append_36 ?_
          replace hf := bd_so hf
          obtain ⟨S6, h7, hf⟩ := hf
          refine g_iast C hW h7 dX5_append_37 (fun H locs hW => ?_)
          refine lv_aload_n hx hb dX5_append_38 rfl (lv_at hl 0 rfl) ?_
          refine lv_dup hx hb dX5_append_39 rfl ?_
          refine g_get (ci := 5) (k := 0) (val := .int (rI S6 12 0)) C g_us hW rfl rfl rfl (in_sid _ rfl) (by decide) f_RX5_15 rfl dX5_append_40 ?_
          refine lv_iconst (v := 1) hx hb dX5_append_43 (by decide) ?_
          refine lv_iadd hx hb dX5_append_44 ?_
          replace hf := bd_so hf
          obtain ⟨S8, h9, hf⟩ := hf
          refine g_putI (ci := 5) (k := 0) C g_us hW rfl rfl rfl (in_sid _ rfl) (by decide) f_RX5_15 rfl rfl rfl h9 dX5_append_45 (fun H locs hW => ?_)
          refine lv_iinc (v := (v4 + 1)) (lv' := [(4, .int (v4 + 1)), (0, .ref (E.ad 12)), (1, .int v1), (2, .int v2), (3, .int v3)]) hx hb dX5_append_48 hl (k := 4) rfl rfl (by decide) rfl (fun ls hl => ?_)
          refine lv_goto (tgt := 3) hx hb dX5_append_51 (by decide) ?_
          exact ih _ _ _ _ _ hW (lv_sub hl [1, 2, 3, 4, 0] rfl) hf kE
        clear hf
        have hf := h4
        clear h4
        refine lv_if_eq (tgt := 35) hx hb dX5_append_19 (by decide) (fun c2 => ?_) (fun c2 => ?_)
        · replace hf := ift_ hf c2
          refine lv_iconst (v := 0) hx hb dX5_append_35 (by decide) ?_
          obtain rfl := so1 hf
          exact J5 _ _ _ hW (lv_sub hl [0, 1, 2, 3, 4] rfl)
        · replace hf := iff_ hf c2
          refine lv_iload hx hb dX5_append_22 (lv_at hl 4 rfl) ?_
          refine lv_iload_n hx hb dX5_append_24 rfl (lv_at hl 2 rfl) ?_
          refine lv_iconst (v := 1) hx hb dX5_append_25 (by decide) ?_
          refine lv_isub hx hb dX5_append_26 ?_
          refine lv_icmp_ne (tgt := 35) hx hb dX5_append_27 (by decide) (fun c10 => ?_) (fun c10 => ?_)
          · replace hf := iff_ hf c10
            refine lv_iconst (v := 0) hx hb dX5_append_35 (by decide) ?_
            obtain rfl := so1 hf
            exact J5 _ _ _ hW (lv_sub hl [0, 1, 2, 3, 4] rfl)
          · replace hf := ift_ hf c10
            refine lv_bipush (v := 10) hx hb dX5_append_30 (by decide) ?_
            refine lv_goto (tgt := 36) hx hb dX5_append_32 (by decide) ?_
            obtain rfl := so1 hf
            exact J5 _ _ _ hW (lv_sub hl [0, 1, 2, 3, 4] rfl)
  unfold X5_append at hf
  refine lv_iconst (v := 0) hx hb dX5_append_0 (by decide) ?_
  refine lv_istore (lv' := [(4, .int 0), (0, .ref (E.ad 12)), (1, .int a1), (2, .int a2), (3, .int a3)]) hx hb dX5_append_1 hl (by decide) rfl (fun ls hl => ?_)
  replace hf := bd_so hf
  obtain ⟨S11, h12, hf⟩ := hf
  have J13 : ∀ (H : Heap) (locs : List Loc) (ls : Array Slot), Ww E S11 s H locs → lv_has ls 5 [] → W p l e rm_X5_append s m args below meth c H locs 0 0 Q (F0 m 54 ls []) := by
    intro H locs ls hW hl
    obtain rfl := so1 hf
    exact kR _ _ _ _ hW dX5_append_54
  exact X5_append_L3_c _ _ _ _ FU _ _ _ _ _ hW (lv_sub hl [1, 2, 3, 4, 0] rfl) h12 (fun _ H locs ls e hW hl => by cases e; exact J13 H locs ls hW hl)

abbrev rm_X5_breaths : Room := { frames := 1, cells := 0, slots := 0, locals := 60 }
set_option maxHeartbeats 4000000 in
set_option maxRecDepth 100000 in
theorem c_X5_breaths (l : Launch) (E : En) (S : St) (r : Int32) (hf : X5_breaths S  = some r) : Mi l E yX5_breaths cX5_breaths 3 (some .int) rm_X5_breaths [.ref (E.ad 6)] S r S := by
  refine g_startI (cc := cX5_breaths) (n := 3) (by decide) (Nat.le_of_ble_eq_true rfl) ?_
  intro p e s m args below meth c Q H locs C kR hW ls hl
  obtain ⟨⟨hx, hb, hml, hown, hts⟩, hK, hT⟩ := id C
  have hl : lv_has ls 3 [(0, .ref (E.ad 6))] := hl
  have X5_breaths_L4_c : ∀ (S : St) (res : Int32) (n : Nat) (v1 : Int32) (v2 : Int32) (H : Heap) (locs : List Loc) (ls : Array Slot), Ww E S s H locs → lv_has ls 3 [(0, .ref (E.ad 6)), (1, .int v1), (2, .int v2)] → X5_breaths_L4 S  n v1 v2 = some res → (∀ (w1 : Int32) (H : Heap) (locs : List Loc) (ls : Array Slot), some w1 = some res → Ww E S s H locs → lv_has ls 3 [(1, .int w1)] → W p l e rm_X5_breaths s m args below meth c H locs 0 0 Q (F0 m 37 ls [])) → W p l e rm_X5_breaths s m args below meth c H locs 0 0 Q (F0 m 4 ls []) := by
    intro S  res n
    induction n with
    | zero =>
      intro v1 v2 H locs ls hW hl hf
      cases hf
    | succ n ih =>
      intro v1 v2 H locs ls hW hl hf kE
      unfold X5_breaths_L4 at hf
      refine lv_iload_n hx hb dX5_breaths_4 rfl (lv_at hl 2 rfl) ?_
      refine lv_aload_n hx hb dX5_breaths_5 rfl (lv_at hl 0 rfl) ?_
      refine g_get (ci := 5) (k := 0) (val := .int (rI S 6 0)) C g_us hW rfl rfl rfl (in_sid _ rfl) (by decide) f_RX5_15 rfl dX5_breaths_6 ?_
      refine lv_icmp_ge (tgt := 37) hx hb dX5_breaths_9 (by decide) (fun c1 => ?_) (fun c1 => ?_)
      · replace hf := ift_ hf c1
        exact kE _ _ _ _ hf hW (lv_sub hl [1] rfl)
      · replace hf := iff_ hf c1
        refine lv_iload_n hx hb dX5_breaths_12 rfl (lv_at hl 1 rfl) ?_
        refine lv_aload_n hx hb dX5_breaths_13 rfl (lv_at hl 0 rfl) ?_
        refine g_get (ci := 5) (k := 1) (val := .ref (E.ad 7)) C g_us hW rfl rfl rfl (in_sid _ rfl) (by decide) f_RX5_9 rfl dX5_breaths_14 ?_
        refine lv_iload_n hx hb dX5_breaths_17 rfl (lv_at hl 2 rfl) ?_
        replace hf := bd_so hf
        obtain ⟨x2, h3, hf⟩ := hf
        refine g_iald C hW h3 dX5_breaths_18 ?_
        refine lv_bipush (v := 10) hx hb dX5_breaths_19 (by decide) ?_
        replace hf := bd_so hf
        obtain ⟨x5, h6, hf⟩ := hf
        have J7 : ∀ (H : Heap) (locs : List Loc) (ls : Array Slot), Ww E S s H locs → lv_has ls 3 [(0, .ref (E.ad 6)), (2, .int v2)] → W p l e rm_X5_breaths s m args below meth c H locs 0 0 Q (F0 m 29 ls [.int x5, .int v1]) := by
          intro H locs ls hW hl
          refine lv_iadd hx hb dX5_breaths_29 ?_
          refine lv_istore_n (lv' := [(1, .int (v1 + x5)), (0, .ref (E.ad 6)), (2, .int v2)]) hx hb dX5_breaths_30 rfl hl (by decide) rfl (fun ls hl => ?_)
          refine lv_iinc (v := (v2 + 1)) (lv' := [(2, .int (v2 + 1)), (1, .int (v1 + x5)), (0, .ref (E.ad 6))]) hx hb dX5_breaths_31 hl (k := 2) rfl rfl (by decide) rfl (fun ls hl => ?_)
          refine lv_goto (tgt := 4) hx hb dX5_breaths_34 (by decide) ?_
          exact ih _ _ _ _ _ hW (lv_sub hl [2, 1, 0] rfl) hf kE
        clear hf
        have hf := h6
        clear h6
        refine lv_icmp_lt (tgt := 28) hx hb dX5_breaths_21 (by decide) (fun c4 => ?_) (fun c4 => ?_)
        · replace hf := ift_ hf c4
          refine lv_iconst (v := 0) hx hb dX5_breaths_28 (by decide) ?_
          obtain rfl := so1 hf
          exact J7 _ _ _ hW (lv_sub hl [0, 2] rfl)
        · replace hf := iff_ hf c4
          refine lv_iconst (v := 1) hx hb dX5_breaths_24 (by decide) ?_
          refine lv_goto (tgt := 29) hx hb dX5_breaths_25 (by decide) ?_
          obtain rfl := so1 hf
          exact J7 _ _ _ hW (lv_sub hl [0, 2] rfl)
  unfold X5_breaths at hf
  refine lv_iconst (v := 0) hx hb dX5_breaths_0 (by decide) ?_
  refine lv_istore_n (lv' := [(1, .int 0), (0, .ref (E.ad 6))]) hx hb dX5_breaths_1 rfl hl (by decide) rfl (fun ls hl => ?_)
  refine lv_iconst (v := 0) hx hb dX5_breaths_2 (by decide) ?_
  refine lv_istore_n (lv' := [(2, .int 0), (1, .int 0), (0, .ref (E.ad 6))]) hx hb dX5_breaths_3 rfl hl (by decide) rfl (fun ls hl => ?_)
  replace hf := bd_so hf
  obtain ⟨x8, h9, hf⟩ := hf
  have J10 : ∀ (H : Heap) (locs : List Loc) (ls : Array Slot), Ww E S s H locs → lv_has ls 3 [(1, .int x8)] → W p l e rm_X5_breaths s m args below meth c H locs 0 0 Q (F0 m 37 ls []) := by
    intro H locs ls hW hl
    refine lv_iload_n hx hb dX5_breaths_37 rfl (lv_at hl 0 rfl) ?_
    obtain rfl := so1 hf
    exact kR _ _ _ _ hW dX5_breaths_38
  exact X5_breaths_L4_c _ _ FU _ _ _ _ _ hW (lv_sub hl [2, 1, 0] rfl) h9 (fun _ H locs ls e hW hl => by cases e; exact J10 H locs ls hW hl)

abbrev rm_X5_behindLastBreath : Room := { frames := 1, cells := 0, slots := 0, locals := 60 }
set_option maxHeartbeats 4000000 in
set_option maxRecDepth 100000 in
theorem c_X5_behindLastBreath (l : Launch) (E : En) (S : St) (a1 : Int32) (r : Int32) (hf : X5_behindLastBreath S a1 = some r) : Mi l E yX5_behindLastBreath cX5_behindLastBreath 3 (some .int) rm_X5_behindLastBreath [.ref (E.ad 6), .int a1] S r S := by
  refine g_startI (cc := cX5_behindLastBreath) (n := 3) (by decide) (Nat.le_of_ble_eq_true rfl) ?_
  intro p e s m args below meth c Q H locs C kR hW ls hl
  obtain ⟨⟨hx, hb, hml, hown, hts⟩, hK, hT⟩ := id C
  have hl : lv_has ls 3 [(0, .ref (E.ad 6)), (1, .int a1)] := hl
  have X5_behindLastBreath_L9_c : ∀ (S : St) (res : (Unit) ⊕ (Int32)) (n : Nat) (v2 : Int32) (H : Heap) (locs : List Loc) (ls : Array Slot), Ww E S s H locs → lv_has ls 3 [(0, .ref (E.ad 6)), (2, .int v2)] → X5_behindLastBreath_L9 S  n v2 = some res → (∀ (H : Heap) (locs : List Loc) (ls : Array Slot), some (.inl ()) = some res → Ww E S s H locs → lv_has ls 3 [] → W p l e rm_X5_behindLastBreath s m args below meth c H locs 0 0 Q (F0 m 34 ls [])) → (∀ (r0 : Int32) (H : Heap) (locs : List Loc) (pc : Nat) (ls : Array Slot), some (.inr r0) = some res → Ww E S s H locs → decode cX5_behindLastBreath pc = .ok (.ireturn, 1) → W p l e rm_X5_behindLastBreath s m args below meth c H locs 0 0 Q (F0 m pc ls [.int r0])) → W p l e rm_X5_behindLastBreath s m args below meth c H locs 0 0 Q (F0 m 9 ls []) := by
    intro S  res n
    induction n with
    | zero =>
      intro v2 H locs ls hW hl hf
      cases hf
    | succ n ih =>
      intro v2 H locs ls hW hl hf kE kR
      unfold X5_behindLastBreath_L9 at hf
      refine lv_iload_n hx hb dX5_behindLastBreath_9 rfl (lv_at hl 1 rfl) ?_
      refine lv_if_le (tgt := 34) hx hb dX5_behindLastBreath_10 (by decide) (fun c1 => ?_) (fun c1 => ?_)
      · replace hf := ift_ hf c1
        exact kE  _ _ _ hf hW (lv_sub hl [] rfl)
      · replace hf := iff_ hf c1
        refine lv_aload_n hx hb dX5_behindLastBreath_13 rfl (lv_at hl 0 rfl) ?_
        refine g_get (ci := 5) (k := 1) (val := .ref (E.ad 7)) C g_us hW rfl rfl rfl (in_sid _ rfl) (by decide) f_RX5_9 rfl dX5_behindLastBreath_14 ?_
        refine lv_iload_n hx hb dX5_behindLastBreath_17 rfl (lv_at hl 1 rfl) ?_
        refine lv_iconst (v := 1) hx hb dX5_behindLastBreath_18 (by decide) ?_
        refine lv_isub hx hb dX5_behindLastBreath_19 ?_
        replace hf := bd_so hf
        obtain ⟨x2, h3, hf⟩ := hf
        refine g_iald C hW h3 dX5_behindLastBreath_20 ?_
        refine lv_bipush (v := 10) hx hb dX5_behindLastBreath_21 (by decide) ?_
        refine lv_icmp_lt (tgt := 28) hx hb dX5_behindLastBreath_23 (by decide) (fun c4 => ?_) (fun c4 => ?_)
        · replace hf := ift_ hf c4
          refine lv_iinc (v := (v2 + (-1))) (lv' := [(2, .int (v2 + (-1))), (0, .ref (E.ad 6))]) hx hb dX5_behindLastBreath_28 hl (k := 1) rfl rfl (by decide) rfl (fun ls hl => ?_)
          refine lv_goto (tgt := 9) hx hb dX5_behindLastBreath_31 (by decide) ?_
          exact ih _ _ _ _ hW (lv_sub hl [1, 0] rfl) hf kE kR
        · replace hf := iff_ hf c4
          refine lv_iload_n hx hb dX5_behindLastBreath_26 rfl (lv_at hl 1 rfl) ?_
          exact kR _ _ _ _ _ hf hW dX5_behindLastBreath_27
  unfold X5_behindLastBreath at hf
  refine lv_iload_n hx hb dX5_behindLastBreath_0 rfl (lv_at hl 1 rfl) ?_
  refine lv_aload_n hx hb dX5_behindLastBreath_1 rfl (lv_at hl 0 rfl) ?_
  refine g_get (ci := 5) (k := 0) (val := .int (rI S 6 0)) C g_us hW rfl rfl rfl (in_sid _ rfl) (by decide) f_RX5_15 rfl dX5_behindLastBreath_2 ?_
  refine g_min C g_us hl.1 k_RX5_25 (Nat.le_of_ble_eq_true rfl) (Nat.le_of_ble_eq_true rfl) ⟨Nat.zero_le _, Nat.zero_le _⟩ dX5_behindLastBreath_5 ?_
  refine lv_istore_n (lv' := [(2, .int (if (rI S 6 0) < a1 then (rI S 6 0) else a1)), (0, .ref (E.ad 6)), (1, .int a1)]) hx hb dX5_behindLastBreath_8 rfl hl (by decide) rfl (fun ls hl => ?_)
  replace hf := bd_so hf
  obtain ⟨t, h5, hf⟩ := hf
  rcases t with u | x7
  · dsimp only at hf
    have J6 : ∀ (H : Heap) (locs : List Loc) (ls : Array Slot), Ww E S s H locs → lv_has ls 3 [] → W p l e rm_X5_behindLastBreath s m args below meth c H locs 0 0 Q (F0 m 34 ls []) := by
      intro H locs ls hW hl
      refine lv_iconst (v := 0) hx hb dX5_behindLastBreath_34 (by decide) ?_
      obtain rfl := so1 hf
      exact kR _ _ _ _ hW dX5_behindLastBreath_35
    exact X5_behindLastBreath_L9_c _ _ FU _ _ _ _ hW (lv_sub hl [1, 0] rfl) h5 (fun H locs ls e hW hl => by cases e; exact J6 H locs ls hW hl) (fun _ H locs pc ls e hW dd => by cases e)
  · dsimp only at hf
    refine X5_behindLastBreath_L9_c _ _ FU _ _ _ _ hW (lv_sub hl [1, 0] rfl) h5 (fun H locs ls e hW hl => by cases e) (fun _ H locs pc ls e hW dd => ?_)
    cases e
    obtain rfl := so1 hf
    exact kR _ _ _ _ hW dd

abbrev rm_X5_clashesAt : Room := { frames := 1, cells := 0, slots := 0, locals := 60 }
set_option maxHeartbeats 4000000 in
set_option maxRecDepth 100000 in
theorem c_X5_clashesAt (l : Launch) (E : En) (S : St) (a1 : Int32) (a2 : Int32) (r : Int32) (hf : X5_clashesAt S a1 a2 = some r) : Mi l E yX5_clashesAt cX5_clashesAt 7 (some .int) rm_X5_clashesAt [.ref (E.ad 6), .int a1, .int a2] S r S := by
  refine g_startI (cc := cX5_clashesAt) (n := 7) (by decide) (Nat.le_of_ble_eq_true rfl) ?_
  intro p e s m args below meth c Q H locs C kR hW ls hl
  obtain ⟨⟨hx, hb, hml, hown, hts⟩, hK, hT⟩ := id C
  have hl : lv_has ls 7 [(0, .ref (E.ad 6)), (1, .int a1), (2, .int a2)] := hl
  have X5_clashesAt_L5_c : ∀ (S : St) (v1 : Int32) (v2 : Int32) (res : Int32) (n : Nat) (v3 : Int32) (v4 : Int32) (H : Heap) (locs : List Loc) (ls : Array Slot), Ww E S s H locs → lv_has ls 7 [(0, .ref (E.ad 6)), (1, .int v1), (2, .int v2), (3, .int v3), (4, .int v4)] → X5_clashesAt_L5 S v1 v2 n v3 v4 = some res → (∀ (w3 : Int32) (H : Heap) (locs : List Loc) (ls : Array Slot), some w3 = some res → Ww E S s H locs → lv_has ls 7 [(3, .int w3)] → W p l e rm_X5_clashesAt s m args below meth c H locs 0 0 Q (F0 m 74 ls [])) → W p l e rm_X5_clashesAt s m args below meth c H locs 0 0 Q (F0 m 5 ls []) := by
    intro S v1 v2 res n
    induction n with
    | zero =>
      intro v3 v4 H locs ls hW hl hf
      cases hf
    | succ n ih =>
      intro v3 v4 H locs ls hW hl hf kE
      unfold X5_clashesAt_L5 at hf
      refine lv_iload hx hb dX5_clashesAt_5 (lv_at hl 4 rfl) ?_
      refine lv_aload_n hx hb dX5_clashesAt_7 rfl (lv_at hl 0 rfl) ?_
      refine g_get (ci := 5) (k := 0) (val := .int (rI S 6 0)) C g_us hW rfl rfl rfl (in_sid _ rfl) (by decide) f_RX5_15 rfl dX5_clashesAt_8 ?_
      refine lv_icmp_ge (tgt := 74) hx hb dX5_clashesAt_11 (by decide) (fun c1 => ?_) (fun c1 => ?_)
      · replace hf := ift_ hf c1
        exact kE _ _ _ _ hf hW (lv_sub hl [3] rfl)
      · replace hf := iff_ hf c1
        refine lv_aload_n hx hb dX5_clashesAt_14 rfl (lv_at hl 0 rfl) ?_
        refine g_get (ci := 5) (k := 1) (val := .ref (E.ad 7)) C g_us hW rfl rfl rfl (in_sid _ rfl) (by decide) f_RX5_9 rfl dX5_clashesAt_15 ?_
        refine lv_iload hx hb dX5_clashesAt_18 (lv_at hl 4 rfl) ?_
        replace hf := bd_so hf
        obtain ⟨x2, h3, hf⟩ := hf
        refine g_iald C hW h3 dX5_clashesAt_20 ?_
        refine lv_bipush (v := 10) hx hb dX5_clashesAt_21 (by decide) ?_
        replace hf := bd_so hf
        obtain ⟨x4, h5, hf⟩ := hf
        refine g_irem C h5 dX5_clashesAt_23 ?_
        refine lv_istore (lv' := [(5, .int x4), (0, .ref (E.ad 6)), (1, .int v1), (2, .int v2), (3, .int v3), (4, .int v4)]) hx hb dX5_clashesAt_24 hl (by decide) rfl (fun ls hl => ?_)
        refine lv_aload_n hx hb dX5_clashesAt_26 rfl (lv_at hl 1 rfl) ?_
        refine g_get (ci := 5) (k := 1) (val := .ref (E.ad 7)) C g_us hW rfl rfl rfl (in_sid _ rfl) (by decide) f_RX5_9 rfl dX5_clashesAt_27 ?_
        refine lv_iload hx hb dX5_clashesAt_30 (lv_at hl 5 rfl) ?_
        refine lv_iload_n hx hb dX5_clashesAt_32 rfl (lv_at hl 2 rfl) ?_
        refine lv_isub hx hb dX5_clashesAt_33 ?_
        replace hf := bd_so hf
        obtain ⟨x6, h7, hf⟩ := hf
        refine g_iald C hW h7 dX5_clashesAt_34 ?_
        refine lv_bipush (v := 10) hx hb dX5_clashesAt_35 (by decide) ?_
        replace hf := bd_so hf
        obtain ⟨x8, h9, hf⟩ := hf
        refine g_irem C h9 dX5_clashesAt_37 ?_
        refine lv_istore (lv' := [(6, .int x8), (5, .int x4), (0, .ref (E.ad 6)), (1, .int v1), (2, .int v2), (3, .int v3), (4, .int v4)]) hx hb dX5_clashesAt_38 hl (by decide) rfl (fun ls hl => ?_)
        refine lv_iload hx hb dX5_clashesAt_40 (lv_at hl 1 rfl) ?_
        replace hf := bd_so hf
        obtain ⟨x11, h12, hf⟩ := hf
        have J13 : ∀ (H : Heap) (locs : List Loc) (ls : Array Slot), Ww E S s H locs → lv_has ls 7 [(0, .ref (E.ad 6)), (1, .int v1), (2, .int v2), (3, .int x11), (4, .int v4)] → W p l e rm_X5_clashesAt s m args below meth c H locs 0 0 Q (F0 m 68 ls []) := by
          intro H locs ls hW hl
          refine lv_iinc (v := (v4 + 1)) (lv' := [(4, .int (v4 + 1)), (0, .ref (E.ad 6)), (1, .int v1), (2, .int v2), (3, .int x11)]) hx hb dX5_clashesAt_68 hl (k := 4) rfl rfl (by decide) rfl (fun ls hl => ?_)
          refine lv_goto (tgt := 5) hx hb dX5_clashesAt_71 (by decide) ?_
          exact ih _ _ _ _ _ hW (lv_sub hl [1, 2, 3, 4, 0] rfl) hf kE
        clear hf
        have hf := h12
        clear h12
        refine lv_if_eq (tgt := 68) hx hb dX5_clashesAt_42 (by decide) (fun c10 => ?_) (fun c10 => ?_)
        · replace hf := ift_ hf c10
          obtain rfl := so1 hf
          exact J13 _ _ _ hW (lv_sub hl [2, 3, 4, 5, 6] rfl)
        · replace hf := iff_ hf c10
          refine lv_iload hx hb dX5_clashesAt_45 (lv_at hl 0 rfl) ?_
          refine lv_if_eq (tgt := 68) hx hb dX5_clashesAt_47 (by decide) (fun c14 => ?_) (fun c14 => ?_)
          · replace hf := ift_ hf c14
            obtain rfl := so1 hf
            exact J13 _ _ _ hW (lv_sub hl [2, 3, 4, 5, 6] rfl)
          · replace hf := iff_ hf c14
            refine lv_iload_n hx hb dX5_clashesAt_50 rfl (lv_at hl 4 rfl) ?_
            refine lv_iload hx hb dX5_clashesAt_51 (lv_at hl 1 rfl) ?_
            refine lv_iload hx hb dX5_clashesAt_53 (lv_at hl 0 rfl) ?_
            refine lv_isub hx hb dX5_clashesAt_55 ?_
            refine g_abs C g_us hl.1 k_RX5_31 (Nat.le_of_ble_eq_true rfl) (Nat.le_of_ble_eq_true rfl) ⟨Nat.zero_le _, Nat.zero_le _⟩ dX5_clashesAt_56 ?_
            refine lv_ishr hx hb dX5_clashesAt_59 ?_
            refine lv_iconst (v := 1) hx hb dX5_clashesAt_60 (by decide) ?_
            refine lv_iand hx hb dX5_clashesAt_61 ?_
            refine lv_if_ne (tgt := 68) hx hb dX5_clashesAt_62 (by decide) (fun c15 => ?_) (fun c15 => ?_)
            · replace hf := iff_ hf c15
              obtain rfl := so1 hf
              exact J13 _ _ _ hW (lv_sub hl [2, 3, 4, 5, 6] rfl)
            · replace hf := ift_ hf c15
              refine lv_iinc (v := (v3 + 1)) (lv' := [(3, .int (v3 + 1)), (6, .int x8), (5, .int x4), (0, .ref (E.ad 6)), (1, .int v1), (2, .int v2), (4, .int v4)]) hx hb dX5_clashesAt_65 hl (k := 5) rfl rfl (by decide) rfl (fun ls hl => ?_)
              obtain rfl := so1 hf
              exact J13 _ _ _ hW (lv_sub hl [3, 4, 5, 0, 6] rfl)
  unfold X5_clashesAt at hf
  refine lv_iconst (v := 0) hx hb dX5_clashesAt_0 (by decide) ?_
  refine lv_istore_n (lv' := [(3, .int 0), (0, .ref (E.ad 6)), (1, .int a1), (2, .int a2)]) hx hb dX5_clashesAt_1 rfl hl (by decide) rfl (fun ls hl => ?_)
  refine lv_iload_n hx hb dX5_clashesAt_2 rfl (lv_at hl 2 rfl) ?_
  refine lv_istore (lv' := [(4, .int a1), (3, .int 0), (0, .ref (E.ad 6)), (1, .int a1), (2, .int a2)]) hx hb dX5_clashesAt_3 hl (by decide) rfl (fun ls hl => ?_)
  replace hf := bd_so hf
  obtain ⟨x16, h17, hf⟩ := hf
  have J18 : ∀ (H : Heap) (locs : List Loc) (ls : Array Slot), Ww E S s H locs → lv_has ls 7 [(3, .int x16)] → W p l e rm_X5_clashesAt s m args below meth c H locs 0 0 Q (F0 m 74 ls []) := by
    intro H locs ls hW hl
    refine lv_iload_n hx hb dX5_clashesAt_74 rfl (lv_at hl 0 rfl) ?_
    obtain rfl := so1 hf
    exact kR _ _ _ _ hW dX5_clashesAt_75
  exact X5_clashesAt_L5_c _ _ _ _ FU _ _ _ _ _ hW (lv_sub hl [2, 3, 4, 1, 0] rfl) h17 (fun _ H locs ls e hW hl => by cases e; exact J18 H locs ls hW hl)
