theorem k_RL_101 : lkV RL RX11 101 yX11_lose cX11_lose 7 (some .int) 4 := ⟨⟨inUU (by decide +kernel), inUU (by decide +kernel), inUU (by decide +kernel), inUU (by decide +kernel), inUU (by decide +kernel)⟩, by decide +kernel⟩
theorem k_RL_102 : lkV RL RX10 102 yX10_goes cX10_goes 4 (some .int) 2 := ⟨⟨inUU (by decide +kernel), inUU (by decide +kernel), inUU (by decide +kernel), inUU (by decide +kernel), inUU (by decide +kernel)⟩, by decide +kernel⟩
theorem k_RL_105 : lkV RL RX11 105 yX11_goes cX11_goes 7 (some .int) 2 := ⟨⟨inUU (by decide +kernel), inUU (by decide +kernel), inUU (by decide +kernel), inUU (by decide +kernel), inUU (by decide +kernel)⟩, by decide +kernel⟩
theorem k_RL_106 : lkV RL RX10 106 yX10_knows cX10_knows 3 (some .int) 2 := ⟨⟨inUU (by decide +kernel), inUU (by decide +kernel), inUU (by decide +kernel), inUU (by decide +kernel), inUU (by decide +kernel)⟩, by decide +kernel⟩
theorem k_RL_109 : lkV RL RX11 109 yX11_knows cX11_knows 3 (some .int) 2 := ⟨⟨inUU (by decide +kernel), inUU (by decide +kernel), inUU (by decide +kernel), inUU (by decide +kernel), inUU (by decide +kernel)⟩, by decide +kernel⟩
theorem k_RL_110 : lkV RL RX10 110 yX10_loss cX10_loss 3 (some .int) 1 := ⟨⟨inUU (by decide +kernel), inUU (by decide +kernel), inUU (by decide +kernel), inUU (by decide +kernel), inUU (by decide +kernel)⟩, by decide +kernel⟩
theorem k_RL_114 : lkV RL RX11 114 yX11_loss cX11_loss 3 (some .int) 1 := ⟨⟨inUU (by decide +kernel), inUU (by decide +kernel), inUU (by decide +kernel), inUU (by decide +kernel), inUU (by decide +kernel)⟩, by decide +kernel⟩
theorem k_RL_115 : lkV RL RX10 115 yX10_lost cX10_lost 3 (some .int) 2 := ⟨⟨inUU (by decide +kernel), inUU (by decide +kernel), inUU (by decide +kernel), inUU (by decide +kernel), inUU (by decide +kernel)⟩, by decide +kernel⟩
theorem k_RL_118 : lkV RL RX11 118 yX11_lost cX11_lost 3 (some .int) 2 := ⟨⟨inUU (by decide +kernel), inUU (by decide +kernel), inUU (by decide +kernel), inUU (by decide +kernel), inUU (by decide +kernel)⟩, by decide +kernel⟩
theorem k_RL_119 : lkV RL RX10 119 yX10_group cX10_group 2 (some .int) 0 := ⟨⟨inUU (by decide +kernel), inUU (by decide +kernel), inUU (by decide +kernel), inUU (by decide +kernel), inUU (by decide +kernel)⟩, by decide +kernel⟩
theorem k_RL_122 : lkV RL RX11 122 yX11_group cX11_group 4 (some .int) 0 := ⟨⟨inUU (by decide +kernel), inUU (by decide +kernel), inUU (by decide +kernel), inUU (by decide +kernel), inUU (by decide +kernel)⟩, by decide +kernel⟩
theorem k_RL_123 : lkV RL RX10 123 yX10_clear cX10_clear 2 (some .int) 0 := ⟨⟨inUU (by decide +kernel), inUU (by decide +kernel), inUU (by decide +kernel), inUU (by decide +kernel), inUU (by decide +kernel)⟩, by decide +kernel⟩
theorem k_RL_126 : lkV RL RX11 126 yX11_clear cX11_clear 2 (some .int) 0 := ⟨⟨inUU (by decide +kernel), inUU (by decide +kernel), inUU (by decide +kernel), inUU (by decide +kernel), inUU (by decide +kernel)⟩, by decide +kernel⟩
theorem k_RL_127 : lkV RL RX10 127 yX10_most cX10_most 3 (some .int) 1 := ⟨⟨inUU (by decide +kernel), inUU (by decide +kernel), inUU (by decide +kernel), inUU (by decide +kernel), inUU (by decide +kernel)⟩, by decide +kernel⟩
theorem k_RL_13 : lkV RL RX10 13 yX10_room cX10_room 2 (some .int) 1 := ⟨⟨inUU (by decide +kernel), inUU (by decide +kernel), inUU (by decide +kernel), inUU (by decide +kernel), inUU (by decide +kernel)⟩, by decide +kernel⟩
theorem k_RL_130 : lkV RL RX11 130 yX11_most cX11_most 3 (some .int) 1 := ⟨⟨inUU (by decide +kernel), inUU (by decide +kernel), inUU (by decide +kernel), inUU (by decide +kernel), inUU (by decide +kernel)⟩, by decide +kernel⟩
theorem k_RL_131 : lkV RL RX10 131 yX10_net cX10_net 2 (some .int) 0 := ⟨⟨inUU (by decide +kernel), inUU (by decide +kernel), inUU (by decide +kernel), inUU (by decide +kernel), inUU (by decide +kernel)⟩, by decide +kernel⟩
theorem k_RL_134 : lkV RL RX11 134 yX11_net cX11_net 9 (some .int) 0 := ⟨⟨inUU (by decide +kernel), inUU (by decide +kernel), inUU (by decide +kernel), inUU (by decide +kernel), inUU (by decide +kernel)⟩, by decide +kernel⟩
theorem k_RL_135 : lkV RL RX10 135 yX10_image cX10_image 2 (some .int) 1 := ⟨⟨inUU (by decide +kernel), inUU (by decide +kernel), inUU (by decide +kernel), inUU (by decide +kernel), inUU (by decide +kernel)⟩, by decide +kernel⟩
theorem k_RL_138 : lkV RL RX11 138 yX11_image cX11_image 3 (some .int) 1 := ⟨⟨inUU (by decide +kernel), inUU (by decide +kernel), inUU (by decide +kernel), inUU (by decide +kernel), inUU (by decide +kernel)⟩, by decide +kernel⟩
theorem k_RL_139 : lkV RL RX10 139 yX10_restore cX10_restore 2 (some .int) 1 := ⟨⟨inUU (by decide +kernel), inUU (by decide +kernel), inUU (by decide +kernel), inUU (by decide +kernel), inUU (by decide +kernel)⟩, by decide +kernel⟩
theorem k_RL_142 : lkV RL RX11 142 yX11_restore cX11_restore 3 (some .int) 1 := ⟨⟨inUU (by decide +kernel), inUU (by decide +kernel), inUU (by decide +kernel), inUU (by decide +kernel), inUU (by decide +kernel)⟩, by decide +kernel⟩
theorem k_RL_143 : lkV RL RX10 143 yX10_sheet cX10_sheet 4 (some .int) 3 := ⟨⟨inUU (by decide +kernel), inUU (by decide +kernel), inUU (by decide +kernel), inUU (by decide +kernel), inUU (by decide +kernel)⟩, by decide +kernel⟩
theorem k_RL_146 : lkV RL RX11 146 yX11_sheet cX11_sheet 5 (some .int) 3 := ⟨⟨inUU (by decide +kernel), inUU (by decide +kernel), inUU (by decide +kernel), inUU (by decide +kernel), inUU (by decide +kernel)⟩, by decide +kernel⟩
theorem k_RL_147 : lkV RL RX10 147 yX10_drop cX10_drop 2 (some .int) 1 := ⟨⟨inUU (by decide +kernel), inUU (by decide +kernel), inUU (by decide +kernel), inUU (by decide +kernel), inUU (by decide +kernel)⟩, by decide +kernel⟩
theorem k_RL_150 : lkV RL RX11 150 yX11_drop cX11_drop 2 (some .int) 1 := ⟨⟨inUU (by decide +kernel), inUU (by decide +kernel), inUU (by decide +kernel), inUU (by decide +kernel), inUU (by decide +kernel)⟩, by decide +kernel⟩
theorem k_RL_151 : lkV RL RX10 151 yX10_item cX10_item 6 (some .int) 4 := ⟨⟨inUU (by decide +kernel), inUU (by decide +kernel), inUU (by decide +kernel), inUU (by decide +kernel), inUU (by decide +kernel)⟩, by decide +kernel⟩
theorem k_RL_154 : lkV RL RX11 154 yX11_item cX11_item 6 (some .int) 4 := ⟨⟨inUU (by decide +kernel), inUU (by decide +kernel), inUU (by decide +kernel), inUU (by decide +kernel), inUU (by decide +kernel)⟩, by decide +kernel⟩
theorem k_RL_155 : lkV RL RX10 155 yX10_copy cX10_copy 8 (some .int) 5 := ⟨⟨inUU (by decide +kernel), inUU (by decide +kernel), inUU (by decide +kernel), inUU (by decide +kernel), inUU (by decide +kernel)⟩, by decide +kernel⟩
theorem k_RL_159 : lkV RL RX11 159 yX11_copy cX11_copy 7 (some .int) 5 := ⟨⟨inUU (by decide +kernel), inUU (by decide +kernel), inUU (by decide +kernel), inUU (by decide +kernel), inUU (by decide +kernel)⟩, by decide +kernel⟩
theorem k_RL_17 : lkV RL RX11 17 yX11_room cX11_room 3 (some .int) 1 := ⟨⟨inUU (by decide +kernel), inUU (by decide +kernel), inUU (by decide +kernel), inUU (by decide +kernel), inUU (by decide +kernel)⟩, by decide +kernel⟩
theorem k_RL_18 : lkV RL RX10 18 yX10_set cX10_set 4 (some .int) 3 := ⟨⟨inUU (by decide +kernel), inUU (by decide +kernel), inUU (by decide +kernel), inUU (by decide +kernel), inUU (by decide +kernel)⟩, by decide +kernel⟩
theorem k_RL_22 : lkV RL RX11 22 yX11_set cX11_set 5 (some .int) 3 := ⟨⟨inUU (by decide +kernel), inUU (by decide +kernel), inUU (by decide +kernel), inUU (by decide +kernel), inUU (by decide +kernel)⟩, by decide +kernel⟩
theorem k_RL_23 : lkV RL RX10 23 yX10_wire cX10_wire 4 (some .int) 3 := ⟨⟨inUU (by decide +kernel), inUU (by decide +kernel), inUU (by decide +kernel), inUU (by decide +kernel), inUU (by decide +kernel)⟩, by decide +kernel⟩
theorem k_RL_26 : lkV RL RX11 26 yX11_wire cX11_wire 5 (some .int) 3 := ⟨⟨inUU (by decide +kernel), inUU (by decide +kernel), inUU (by decide +kernel), inUU (by decide +kernel), inUU (by decide +kernel)⟩, by decide +kernel⟩
theorem k_RL_27 : lkV RL RX10 27 yX10_wires cX10_wires 7 (some .int) 4 := ⟨⟨inUU (by decide +kernel), inUU (by decide +kernel), inUU (by decide +kernel), inUU (by decide +kernel), inUU (by decide +kernel)⟩, by decide +kernel⟩
theorem k_RL_31 : lkV RL RX11 31 yX11_wires cX11_wires 8 (some .int) 4 := ⟨⟨inUU (by decide +kernel), inUU (by decide +kernel), inUU (by decide +kernel), inUU (by decide +kernel), inUU (by decide +kernel)⟩, by decide +kernel⟩
theorem k_RL_32 : lkV RL RX10 32 yX10_pace cX10_pace 3 (some .int) 1 := ⟨⟨inUU (by decide +kernel), inUU (by decide +kernel), inUU (by decide +kernel), inUU (by decide +kernel), inUU (by decide +kernel)⟩, by decide +kernel⟩
theorem k_RL_35 : lkV RL RX11 35 yX11_pace cX11_pace 3 (some .int) 1 := ⟨⟨inUU (by decide +kernel), inUU (by decide +kernel), inUU (by decide +kernel), inUU (by decide +kernel), inUU (by decide +kernel)⟩, by decide +kernel⟩
theorem k_RL_36 : lkV RL RX10 36 yX10_time cX10_time 3 (some .int) 2 := ⟨⟨inUU (by decide +kernel), inUU (by decide +kernel), inUU (by decide +kernel), inUU (by decide +kernel), inUU (by decide +kernel)⟩, by decide +kernel⟩
theorem k_RL_40 : lkV RL RX11 40 yX11_time cX11_time 3 (some .int) 2 := ⟨⟨inUU (by decide +kernel), inUU (by decide +kernel), inUU (by decide +kernel), inUU (by decide +kernel), inUU (by decide +kernel)⟩, by decide +kernel⟩
theorem k_RL_41 : lkV RL RX10 41 yX10_paceAt cX10_paceAt 2 (some .int) 1 := ⟨⟨inUU (by decide +kernel), inUU (by decide +kernel), inUU (by decide +kernel), inUU (by decide +kernel), inUU (by decide +kernel)⟩, by decide +kernel⟩
theorem k_RL_44 : lkV RL RX11 44 yX11_paceAt cX11_paceAt 2 (some .int) 1 := ⟨⟨inUU (by decide +kernel), inUU (by decide +kernel), inUU (by decide +kernel), inUU (by decide +kernel), inUU (by decide +kernel)⟩, by decide +kernel⟩
theorem k_RL_45 : lkV RL RX10 45 yX10_slows cX10_slows 4 (some .int) 2 := ⟨⟨inUU (by decide +kernel), inUU (by decide +kernel), inUU (by decide +kernel), inUU (by decide +kernel), inUU (by decide +kernel)⟩, by decide +kernel⟩
theorem k_RL_48 : lkV RL RX11 48 yX11_slows cX11_slows 4 (some .int) 2 := ⟨⟨inUU (by decide +kernel), inUU (by decide +kernel), inUU (by decide +kernel), inUU (by decide +kernel), inUU (by decide +kernel)⟩, by decide +kernel⟩
theorem k_RL_49 : lkV RL RX10 49 yX10_apart cX10_apart 2 (some .int) 1 := ⟨⟨inUU (by decide +kernel), inUU (by decide +kernel), inUU (by decide +kernel), inUU (by decide +kernel), inUU (by decide +kernel)⟩, by decide +kernel⟩
theorem k_RL_52 : lkV RL RX11 52 yX11_apart cX11_apart 8 (some .int) 1 := ⟨⟨inUU (by decide +kernel), inUU (by decide +kernel), inUU (by decide +kernel), inUU (by decide +kernel), inUU (by decide +kernel)⟩, by decide +kernel⟩
theorem k_RL_53 : lkV RL RX10 53 yX10_count cX10_count 2 (some .int) 1 := ⟨⟨inUU (by decide +kernel), inUU (by decide +kernel), inUU (by decide +kernel), inUU (by decide +kernel), inUU (by decide +kernel)⟩, by decide +kernel⟩
theorem k_RL_56 : lkV RL RX11 56 yX11_count cX11_count 5 (some .int) 1 := ⟨⟨inUU (by decide +kernel), inUU (by decide +kernel), inUU (by decide +kernel), inUU (by decide +kernel), inUU (by decide +kernel)⟩, by decide +kernel⟩
theorem k_RL_57 : lkV RL RX10 57 yX10_hold cX10_hold 5 (some .int) 2 := ⟨⟨inUU (by decide +kernel), inUU (by decide +kernel), inUU (by decide +kernel), inUU (by decide +kernel), inUU (by decide +kernel)⟩, by decide +kernel⟩
theorem k_RL_60 : lkV RL RX11 60 yX11_hold cX11_hold 8 (some .int) 2 := ⟨⟨inUU (by decide +kernel), inUU (by decide +kernel), inUU (by decide +kernel), inUU (by decide +kernel), inUU (by decide +kernel)⟩, by decide +kernel⟩
theorem k_RL_61 : lkV RL RX10 61 yX10_together cX10_together 3 (some .int) 2 := ⟨⟨inUU (by decide +kernel), inUU (by decide +kernel), inUU (by decide +kernel), inUU (by decide +kernel), inUU (by decide +kernel)⟩, by decide +kernel⟩
theorem k_RL_64 : lkV RL RX11 64 yX11_together cX11_together 5 (some .int) 2 := ⟨⟨inUU (by decide +kernel), inUU (by decide +kernel), inUU (by decide +kernel), inUU (by decide +kernel), inUU (by decide +kernel)⟩, by decide +kernel⟩
theorem k_RL_67 : lkV RL RX10 67 yX10_type cX10_type 4 (some .int) 2 := ⟨⟨inUU (by decide +kernel), inUU (by decide +kernel), inUU (by decide +kernel), inUU (by decide +kernel), inUU (by decide +kernel)⟩, by decide +kernel⟩
theorem k_RL_71 : lkV RL RX11 71 yX11_type cX11_type 5 (some .int) 2 := ⟨⟨inUU (by decide +kernel), inUU (by decide +kernel), inUU (by decide +kernel), inUU (by decide +kernel), inUU (by decide +kernel)⟩, by decide +kernel⟩
theorem k_RL_72 : lkV RL RX10 72 yX10_piece cX10_piece 2 (some .int) 0 := ⟨⟨inUU (by decide +kernel), inUU (by decide +kernel), inUU (by decide +kernel), inUU (by decide +kernel), inUU (by decide +kernel)⟩, by decide +kernel⟩
theorem k_RL_76 : lkV RL RX11 76 yX11_piece cX11_piece 5 (some .int) 0 := ⟨⟨inUU (by decide +kernel), inUU (by decide +kernel), inUU (by decide +kernel), inUU (by decide +kernel), inUU (by decide +kernel)⟩, by decide +kernel⟩
theorem k_RL_77 : lkV RL RX10 77 yX10_sound cX10_sound 2 (some .int) 1 := ⟨⟨inUU (by decide +kernel), inUU (by decide +kernel), inUU (by decide +kernel), inUU (by decide +kernel), inUU (by decide +kernel)⟩, by decide +kernel⟩
theorem k_RL_80 : lkV RL RX11 80 yX11_sound cX11_sound 2 (some .int) 1 := ⟨⟨inUU (by decide +kernel), inUU (by decide +kernel), inUU (by decide +kernel), inUU (by decide +kernel), inUU (by decide +kernel)⟩, by decide +kernel⟩
theorem k_RL_81 : lkV RL RX10 81 yX10_fit cX10_fit 3 (some .int) 1 := ⟨⟨inUU (by decide +kernel), inUU (by decide +kernel), inUU (by decide +kernel), inUU (by decide +kernel), inUU (by decide +kernel)⟩, by decide +kernel⟩
theorem k_RL_84 : lkV RL RX11 84 yX11_fit cX11_fit 3 (some .int) 1 := ⟨⟨inUU (by decide +kernel), inUU (by decide +kernel), inUU (by decide +kernel), inUU (by decide +kernel), inUU (by decide +kernel)⟩, by decide +kernel⟩
theorem k_RL_85 : lkV RL RX10 85 yX10_clashes cX10_clashes 2 (some .int) 1 := ⟨⟨inUU (by decide +kernel), inUU (by decide +kernel), inUU (by decide +kernel), inUU (by decide +kernel), inUU (by decide +kernel)⟩, by decide +kernel⟩
theorem k_RL_88 : lkV RL RX11 88 yX11_clashes cX11_clashes 2 (some .int) 1 := ⟨⟨inUU (by decide +kernel), inUU (by decide +kernel), inUU (by decide +kernel), inUU (by decide +kernel), inUU (by decide +kernel)⟩, by decide +kernel⟩
theorem k_RL_89 : lkV RL RX10 89 yX10_canon cX10_canon 4 (some .int) 1 := ⟨⟨inUU (by decide +kernel), inUU (by decide +kernel), inUU (by decide +kernel), inUU (by decide +kernel), inUU (by decide +kernel)⟩, by decide +kernel⟩
theorem k_RL_92 : lkV RL RX11 92 yX11_canon cX11_canon 5 (some .int) 1 := ⟨⟨inUU (by decide +kernel), inUU (by decide +kernel), inUU (by decide +kernel), inUU (by decide +kernel), inUU (by decide +kernel)⟩, by decide +kernel⟩
theorem k_RL_93 : lkV RL RX10 93 yX10_sea cX10_sea 3 (some .int) 2 := ⟨⟨inUU (by decide +kernel), inUU (by decide +kernel), inUU (by decide +kernel), inUU (by decide +kernel), inUU (by decide +kernel)⟩, by decide +kernel⟩
theorem k_RL_96 : lkV RL RX11 96 yX11_sea cX11_sea 3 (some .int) 2 := ⟨⟨inUU (by decide +kernel), inUU (by decide +kernel), inUU (by decide +kernel), inUU (by decide +kernel), inUU (by decide +kernel)⟩, by decide +kernel⟩
theorem k_RL_97 : lkV RL RX10 97 yX10_lose cX10_lose 5 (some .int) 4 := ⟨⟨inUU (by decide +kernel), inUU (by decide +kernel), inUU (by decide +kernel), inUU (by decide +kernel), inUU (by decide +kernel)⟩, by decide +kernel⟩
theorem q_RL_65 : Cond.constantLong RL 65 (4294967295) ∈ UU := inUU (by decide +kernel)
set_option maxHeartbeats 4000000 in
set_option maxRecDepth 100000 in
theorem law_room {p : Program} {e : Env} {s : State} {m : MethodId} {below : List Frame} {meth : Method} {c : Code} {l : Launch} {b L k : Nat} {xs : Nat → Int32} {Inv : St → Prop} {E : En} {S : St} {H : Heap} {locs : List Loc} {ls : Array Slot} (hs : ∀ (S : St) (a0 : Int32), Inv S → ∃ (r : Int32) (S1 : St) (S2 : St), X10_room S a0 = some (r, S1) ∧ X11_room S1 a0 = some (r, S2) ∧ Inv S2) (hL : L ≤ 3072) (hk : 6 * k + 6 ≤ L) (hX : va_X b L xs s s.heap) (hbl : b < s.heap.size) (hbA : ¬ Ab E b) (C : Cx E p s m #[Value.ref b] c code 4 RL lw_tbl) (hI : Inv S) (hW : Ww E S s H locs) (hl : lv_has ls 4 [(0, .ref b), (1, .ref (E.ad 0)), (2, .ref (E.ad 60)), (3, .int (nI (6 * k)))])
    (kN : LwN p l e s m below meth c b k Inv E) : W p l e room_1 s m #[Value.ref b] below meth c H locs (63 + 9 * k) (3633 + 254 * k) (lw_Z below #[Value.ref b] s) (F0 m 184 ls []) := by
  obtain ⟨⟨hx, hb, hml, hown, hts⟩, hK, hT⟩ := id C
  obtain ⟨r, S1, S2, h1, h2, hI⟩ := hs S (xs ((nI (6 * k) + 1)).toNatClampNeg) hI
  refine lv_aload_n hx hb dL_law_184 rfl (lv_at hl 1 rfl) ?_
  refine lv_aload_n hx hb dL_law_185 rfl (lv_at hl 0 rfl) ?_
  refine lv_iload_n hx hb dL_law_186 rfl (lv_at hl 3 rfl) ?_
  refine lv_iconst (v := 1) hx hb dL_law_187 (by decide) ?_
  refine lv_iadd hx hb dL_law_188 ?_
  refine va_sld hx hb hX hbl hbA hW.2.2 (sc_in (j := 1) (by decide) hk hL) dL_law_189 ?_
  refine g_callVi (ci := 10) (As := [.int (xs ((nI (6 * k) + 1)).toNatClampNeg)]) (rest := []) C UU_in hW hl.1 (c_X10_room l E S (xs ((nI (6 * k) + 1)).toNatClampNeg) _ _ h1) rfl rfl rfl (in_sid _ rfl) k_RL_13 rfl ⟨rfl, rfl⟩ ⟨Nat.le_of_ble_eq_true rfl, Nat.le_of_ble_eq_true rfl⟩ (cs_ok hk hL) _ rfl (Nat.le_of_ble_eq_true rfl) dL_law_190 (fun H locs hW => ?_)
  refine lv_aload_n hx hb dL_law_193 rfl (lv_at hl 2 rfl) ?_
  refine lv_aload_n hx hb dL_law_194 rfl (lv_at hl 0 rfl) ?_
  refine lv_iload_n hx hb dL_law_195 rfl (lv_at hl 3 rfl) ?_
  refine lv_iconst (v := 1) hx hb dL_law_196 (by decide) ?_
  refine lv_iadd hx hb dL_law_197 ?_
  refine va_sld hx hb hX hbl hbA hW.2.2 (sc_in (j := 1) (by decide) hk hL) dL_law_198 ?_
  refine g_callVi (ci := 11) (As := [.int (xs ((nI (6 * k) + 1)).toNatClampNeg)]) (rest := [.int r]) C UU_in hW hl.1 (c_X11_room l E S1 (xs ((nI (6 * k) + 1)).toNatClampNeg) _ _ h2) rfl rfl rfl (in_sid _ rfl) k_RL_17 rfl ⟨rfl, rfl⟩ ⟨Nat.le_of_ble_eq_true rfl, Nat.le_of_ble_eq_true rfl⟩ (cs_ok hk hL) _ rfl (Nat.le_of_ble_eq_true rfl) dL_law_199 (fun H locs hW => ?_)
  refine lv_icmp_eq (tgt := 1282) hx hb dL_law_202 (by decide) (fun _ => ?_) (fun c => absurd rfl c)
  exact kN E.ad _ H locs ls _ _ (by omega) (by omega) rfl rfl hI hW hl
set_option maxHeartbeats 4000000 in
set_option maxRecDepth 100000 in
theorem law_set {p : Program} {e : Env} {s : State} {m : MethodId} {below : List Frame} {meth : Method} {c : Code} {l : Launch} {b L k : Nat} {xs : Nat → Int32} {Inv : St → Prop} {E : En} {S : St} {H : Heap} {locs : List Loc} {ls : Array Slot} (hs : ∀ (S : St) (a0 : Int32) (a1 : Int32) (a2 : Int32), Inv S → ∃ (r : Int32) (S1 : St) (S2 : St), X10_set S a0 a1 a2 = some (r, S1) ∧ X11_set S1 a0 a1 a2 = some (r, S2) ∧ Inv S2) (hL : L ≤ 3072) (hk : 6 * k + 6 ≤ L) (hX : va_X b L xs s s.heap) (hbl : b < s.heap.size) (hbA : ¬ Ab E b) (C : Cx E p s m #[Value.ref b] c code 4 RL lw_tbl) (hI : Inv S) (hW : Ww E S s H locs) (hl : lv_has ls 4 [(0, .ref b), (1, .ref (E.ad 0)), (2, .ref (E.ad 60)), (3, .int (nI (6 * k)))])
    (kN : LwN p l e s m below meth c b k Inv E) : W p l e room_1 s m #[Value.ref b] below meth c H locs (63 + 9 * k) (3633 + 254 * k) (lw_Z below #[Value.ref b] s) (F0 m 207 ls []) := by
  obtain ⟨⟨hx, hb, hml, hown, hts⟩, hK, hT⟩ := id C
  obtain ⟨r, S1, S2, h1, h2, hI⟩ := hs S (xs ((nI (6 * k) + 1)).toNatClampNeg) (xs ((nI (6 * k) + 2)).toNatClampNeg) (xs ((nI (6 * k) + 3)).toNatClampNeg) hI
  refine lv_aload_n hx hb dL_law_207 rfl (lv_at hl 1 rfl) ?_
  refine lv_aload_n hx hb dL_law_208 rfl (lv_at hl 0 rfl) ?_
  refine lv_iload_n hx hb dL_law_209 rfl (lv_at hl 3 rfl) ?_
  refine lv_iconst (v := 1) hx hb dL_law_210 (by decide) ?_
  refine lv_iadd hx hb dL_law_211 ?_
  refine va_sld hx hb hX hbl hbA hW.2.2 (sc_in (j := 1) (by decide) hk hL) dL_law_212 ?_
  refine lv_aload_n hx hb dL_law_213 rfl (lv_at hl 0 rfl) ?_
  refine lv_iload_n hx hb dL_law_214 rfl (lv_at hl 3 rfl) ?_
  refine lv_iconst (v := 2) hx hb dL_law_215 (by decide) ?_
  refine lv_iadd hx hb dL_law_216 ?_
  refine va_sld hx hb hX hbl hbA hW.2.2 (sc_in (j := 2) (by decide) hk hL) dL_law_217 ?_
  refine lv_aload_n hx hb dL_law_218 rfl (lv_at hl 0 rfl) ?_
  refine lv_iload_n hx hb dL_law_219 rfl (lv_at hl 3 rfl) ?_
  refine lv_iconst (v := 3) hx hb dL_law_220 (by decide) ?_
  refine lv_iadd hx hb dL_law_221 ?_
  refine va_sld hx hb hX hbl hbA hW.2.2 (sc_in (j := 3) (by decide) hk hL) dL_law_222 ?_
  refine g_callVi (ci := 10) (As := [.int (xs ((nI (6 * k) + 1)).toNatClampNeg), .int (xs ((nI (6 * k) + 2)).toNatClampNeg), .int (xs ((nI (6 * k) + 3)).toNatClampNeg)]) (rest := []) C UU_in hW hl.1 (c_X10_set l E S (xs ((nI (6 * k) + 1)).toNatClampNeg) (xs ((nI (6 * k) + 2)).toNatClampNeg) (xs ((nI (6 * k) + 3)).toNatClampNeg) _ _ h1) rfl rfl rfl (in_sid _ rfl) k_RL_18 rfl ⟨rfl, rfl⟩ ⟨Nat.le_of_ble_eq_true rfl, Nat.le_of_ble_eq_true rfl⟩ (cs_ok hk hL) _ rfl (Nat.le_of_ble_eq_true rfl) dL_law_223 (fun H locs hW => ?_)
  refine lv_aload_n hx hb dL_law_226 rfl (lv_at hl 2 rfl) ?_
  refine lv_aload_n hx hb dL_law_227 rfl (lv_at hl 0 rfl) ?_
  refine lv_iload_n hx hb dL_law_228 rfl (lv_at hl 3 rfl) ?_
  refine lv_iconst (v := 1) hx hb dL_law_229 (by decide) ?_
  refine lv_iadd hx hb dL_law_230 ?_
  refine va_sld hx hb hX hbl hbA hW.2.2 (sc_in (j := 1) (by decide) hk hL) dL_law_231 ?_
  refine lv_aload_n hx hb dL_law_232 rfl (lv_at hl 0 rfl) ?_
  refine lv_iload_n hx hb dL_law_233 rfl (lv_at hl 3 rfl) ?_
  refine lv_iconst (v := 2) hx hb dL_law_234 (by decide) ?_
  refine lv_iadd hx hb dL_law_235 ?_
  refine va_sld hx hb hX hbl hbA hW.2.2 (sc_in (j := 2) (by decide) hk hL) dL_law_236 ?_
  refine lv_aload_n hx hb dL_law_237 rfl (lv_at hl 0 rfl) ?_
  refine lv_iload_n hx hb dL_law_238 rfl (lv_at hl 3 rfl) ?_
  refine lv_iconst (v := 3) hx hb dL_law_239 (by decide) ?_
  refine lv_iadd hx hb dL_law_240 ?_
  refine va_sld hx hb hX hbl hbA hW.2.2 (sc_in (j := 3) (by decide) hk hL) dL_law_241 ?_
  refine g_callVi (ci := 11) (As := [.int (xs ((nI (6 * k) + 1)).toNatClampNeg), .int (xs ((nI (6 * k) + 2)).toNatClampNeg), .int (xs ((nI (6 * k) + 3)).toNatClampNeg)]) (rest := [.int r]) C UU_in hW hl.1 (c_X11_set l E S1 (xs ((nI (6 * k) + 1)).toNatClampNeg) (xs ((nI (6 * k) + 2)).toNatClampNeg) (xs ((nI (6 * k) + 3)).toNatClampNeg) _ _ h2) rfl rfl rfl (in_sid _ rfl) k_RL_22 rfl ⟨rfl, rfl⟩ ⟨Nat.le_of_ble_eq_true rfl, Nat.le_of_ble_eq_true rfl⟩ (cs_ok hk hL) _ rfl (Nat.le_of_ble_eq_true rfl) dL_law_242 (fun H locs hW => ?_)
  refine lv_icmp_eq (tgt := 1282) hx hb dL_law_245 (by decide) (fun _ => ?_) (fun c => absurd rfl c)
  exact kN E.ad _ H locs ls _ _ (by omega) (by omega) rfl rfl hI hW hl
set_option maxHeartbeats 4000000 in
set_option maxRecDepth 100000 in
theorem law_wire {p : Program} {e : Env} {s : State} {m : MethodId} {below : List Frame} {meth : Method} {c : Code} {l : Launch} {b L k : Nat} {xs : Nat → Int32} {Inv : St → Prop} {E : En} {S : St} {H : Heap} {locs : List Loc} {ls : Array Slot} (hs : ∀ (S : St) (a0 : Int32) (a1 : Int32) (a2 : Int32), Inv S → ∃ (r : Int32) (S1 : St) (S2 : St), X10_wire S a0 a1 a2 = some (r, S1) ∧ X11_wire S1 a0 a1 a2 = some (r, S2) ∧ Inv S2) (hL : L ≤ 3072) (hk : 6 * k + 6 ≤ L) (hX : va_X b L xs s s.heap) (hbl : b < s.heap.size) (hbA : ¬ Ab E b) (C : Cx E p s m #[Value.ref b] c code 4 RL lw_tbl) (hI : Inv S) (hW : Ww E S s H locs) (hl : lv_has ls 4 [(0, .ref b), (1, .ref (E.ad 0)), (2, .ref (E.ad 60)), (3, .int (nI (6 * k)))])
    (kN : LwN p l e s m below meth c b k Inv E) : W p l e room_1 s m #[Value.ref b] below meth c H locs (63 + 9 * k) (3633 + 254 * k) (lw_Z below #[Value.ref b] s) (F0 m 250 ls []) := by
  obtain ⟨⟨hx, hb, hml, hown, hts⟩, hK, hT⟩ := id C
  obtain ⟨r, S1, S2, h1, h2, hI⟩ := hs S (xs ((nI (6 * k) + 1)).toNatClampNeg) (xs ((nI (6 * k) + 2)).toNatClampNeg) (xs ((nI (6 * k) + 3)).toNatClampNeg) hI
  refine lv_aload_n hx hb dL_law_250 rfl (lv_at hl 1 rfl) ?_
  refine lv_aload_n hx hb dL_law_251 rfl (lv_at hl 0 rfl) ?_
  refine lv_iload_n hx hb dL_law_252 rfl (lv_at hl 3 rfl) ?_
  refine lv_iconst (v := 1) hx hb dL_law_253 (by decide) ?_
  refine lv_iadd hx hb dL_law_254 ?_
  refine va_sld hx hb hX hbl hbA hW.2.2 (sc_in (j := 1) (by decide) hk hL) dL_law_255 ?_
  refine lv_aload_n hx hb dL_law_256 rfl (lv_at hl 0 rfl) ?_
  refine lv_iload_n hx hb dL_law_257 rfl (lv_at hl 3 rfl) ?_
  refine lv_iconst (v := 2) hx hb dL_law_258 (by decide) ?_
  refine lv_iadd hx hb dL_law_259 ?_
  refine va_sld hx hb hX hbl hbA hW.2.2 (sc_in (j := 2) (by decide) hk hL) dL_law_260 ?_
  refine lv_aload_n hx hb dL_law_261 rfl (lv_at hl 0 rfl) ?_
  refine lv_iload_n hx hb dL_law_262 rfl (lv_at hl 3 rfl) ?_
  refine lv_iconst (v := 3) hx hb dL_law_263 (by decide) ?_
  refine lv_iadd hx hb dL_law_264 ?_
  refine va_sld hx hb hX hbl hbA hW.2.2 (sc_in (j := 3) (by decide) hk hL) dL_law_265 ?_
  refine g_callVi (ci := 10) (As := [.int (xs ((nI (6 * k) + 1)).toNatClampNeg), .int (xs ((nI (6 * k) + 2)).toNatClampNeg), .int (xs ((nI (6 * k) + 3)).toNatClampNeg)]) (rest := []) C UU_in hW hl.1 (c_X10_wire l E S (xs ((nI (6 * k) + 1)).toNatClampNeg) (xs ((nI (6 * k) + 2)).toNatClampNeg) (xs ((nI (6 * k) + 3)).toNatClampNeg) _ _ h1) rfl rfl rfl (in_sid _ rfl) k_RL_23 rfl ⟨rfl, rfl⟩ ⟨Nat.le_of_ble_eq_true rfl, Nat.le_of_ble_eq_true rfl⟩ (cs_ok hk hL) _ rfl (Nat.le_of_ble_eq_true rfl) dL_law_266 (fun H locs hW => ?_)
  refine lv_aload_n hx hb dL_law_269 rfl (lv_at hl 2 rfl) ?_
  refine lv_aload_n hx hb dL_law_270 rfl (lv_at hl 0 rfl) ?_
  refine lv_iload_n hx hb dL_law_271 rfl (lv_at hl 3 rfl) ?_
  refine lv_iconst (v := 1) hx hb dL_law_272 (by decide) ?_
  refine lv_iadd hx hb dL_law_273 ?_
  refine va_sld hx hb hX hbl hbA hW.2.2 (sc_in (j := 1) (by decide) hk hL) dL_law_274 ?_
  refine lv_aload_n hx hb dL_law_275 rfl (lv_at hl 0 rfl) ?_
  refine lv_iload_n hx hb dL_law_276 rfl (lv_at hl 3 rfl) ?_
  refine lv_iconst (v := 2) hx hb dL_law_277 (by decide) ?_
  refine lv_iadd hx hb dL_law_278 ?_
  refine va_sld hx hb hX hbl hbA hW.2.2 (sc_in (j := 2) (by decide) hk hL) dL_law_279 ?_
  refine lv_aload_n hx hb dL_law_280 rfl (lv_at hl 0 rfl) ?_
  refine lv_iload_n hx hb dL_law_281 rfl (lv_at hl 3 rfl) ?_
  refine lv_iconst (v := 3) hx hb dL_law_282 (by decide) ?_
  refine lv_iadd hx hb dL_law_283 ?_
  refine va_sld hx hb hX hbl hbA hW.2.2 (sc_in (j := 3) (by decide) hk hL) dL_law_284 ?_
  refine g_callVi (ci := 11) (As := [.int (xs ((nI (6 * k) + 1)).toNatClampNeg), .int (xs ((nI (6 * k) + 2)).toNatClampNeg), .int (xs ((nI (6 * k) + 3)).toNatClampNeg)]) (rest := [.int r]) C UU_in hW hl.1 (c_X11_wire l E S1 (xs ((nI (6 * k) + 1)).toNatClampNeg) (xs ((nI (6 * k) + 2)).toNatClampNeg) (xs ((nI (6 * k) + 3)).toNatClampNeg) _ _ h2) rfl rfl rfl (in_sid _ rfl) k_RL_26 rfl ⟨rfl, rfl⟩ ⟨Nat.le_of_ble_eq_true rfl, Nat.le_of_ble_eq_true rfl⟩ (cs_ok hk hL) _ rfl (Nat.le_of_ble_eq_true rfl) dL_law_285 (fun H locs hW => ?_)
  refine lv_icmp_eq (tgt := 1282) hx hb dL_law_288 (by decide) (fun _ => ?_) (fun c => absurd rfl c)
  exact kN E.ad _ H locs ls _ _ (by omega) (by omega) rfl rfl hI hW hl
set_option maxHeartbeats 4000000 in
set_option maxRecDepth 100000 in
theorem law_wires {p : Program} {e : Env} {s : State} {m : MethodId} {below : List Frame} {meth : Method} {c : Code} {l : Launch} {b L k : Nat} {xs : Nat → Int32} {Inv : St → Prop} {E : En} {S : St} {H : Heap} {locs : List Loc} {ls : Array Slot} (hs : ∀ (S : St) (a0 : Int32) (a1 : Int32) (a2 : Int32) (a3 : Int32), Inv S → ∃ (r : Int32) (S1 : St) (S2 : St), X10_wires S a0 a1 a2 a3 = some (r, S1) ∧ X11_wires S1 a0 a1 a2 a3 = some (r, S2) ∧ Inv S2) (hL : L ≤ 3072) (hk : 6 * k + 6 ≤ L) (hX : va_X b L xs s s.heap) (hbl : b < s.heap.size) (hbA : ¬ Ab E b) (C : Cx E p s m #[Value.ref b] c code 4 RL lw_tbl) (hI : Inv S) (hW : Ww E S s H locs) (hl : lv_has ls 4 [(0, .ref b), (1, .ref (E.ad 0)), (2, .ref (E.ad 60)), (3, .int (nI (6 * k)))])
    (kN : LwN p l e s m below meth c b k Inv E) : W p l e room_1 s m #[Value.ref b] below meth c H locs (63 + 9 * k) (3633 + 254 * k) (lw_Z below #[Value.ref b] s) (F0 m 293 ls []) := by
  obtain ⟨⟨hx, hb, hml, hown, hts⟩, hK, hT⟩ := id C
  obtain ⟨r, S1, S2, h1, h2, hI⟩ := hs S (xs ((nI (6 * k) + 1)).toNatClampNeg) (xs ((nI (6 * k) + 2)).toNatClampNeg) (xs ((nI (6 * k) + 3)).toNatClampNeg) (xs ((nI (6 * k) + 4)).toNatClampNeg) hI
  refine lv_aload_n hx hb dL_law_293 rfl (lv_at hl 1 rfl) ?_
  refine lv_aload_n hx hb dL_law_294 rfl (lv_at hl 0 rfl) ?_
  refine lv_iload_n hx hb dL_law_295 rfl (lv_at hl 3 rfl) ?_
  refine lv_iconst (v := 1) hx hb dL_law_296 (by decide) ?_
  refine lv_iadd hx hb dL_law_297 ?_
  refine va_sld hx hb hX hbl hbA hW.2.2 (sc_in (j := 1) (by decide) hk hL) dL_law_298 ?_
  refine lv_aload_n hx hb dL_law_299 rfl (lv_at hl 0 rfl) ?_
  refine lv_iload_n hx hb dL_law_300 rfl (lv_at hl 3 rfl) ?_
  refine lv_iconst (v := 2) hx hb dL_law_301 (by decide) ?_
  refine lv_iadd hx hb dL_law_302 ?_
  refine va_sld hx hb hX hbl hbA hW.2.2 (sc_in (j := 2) (by decide) hk hL) dL_law_303 ?_
  refine lv_aload_n hx hb dL_law_304 rfl (lv_at hl 0 rfl) ?_
  refine lv_iload_n hx hb dL_law_305 rfl (lv_at hl 3 rfl) ?_
  refine lv_iconst (v := 3) hx hb dL_law_306 (by decide) ?_
  refine lv_iadd hx hb dL_law_307 ?_
  refine va_sld hx hb hX hbl hbA hW.2.2 (sc_in (j := 3) (by decide) hk hL) dL_law_308 ?_
  refine lv_aload_n hx hb dL_law_309 rfl (lv_at hl 0 rfl) ?_
  refine lv_iload_n hx hb dL_law_310 rfl (lv_at hl 3 rfl) ?_
  refine lv_iconst (v := 4) hx hb dL_law_311 (by decide) ?_
  refine lv_iadd hx hb dL_law_312 ?_
  refine va_sld hx hb hX hbl hbA hW.2.2 (sc_in (j := 4) (by decide) hk hL) dL_law_313 ?_
  refine g_callVi (ci := 10) (As := [.int (xs ((nI (6 * k) + 1)).toNatClampNeg), .int (xs ((nI (6 * k) + 2)).toNatClampNeg), .int (xs ((nI (6 * k) + 3)).toNatClampNeg), .int (xs ((nI (6 * k) + 4)).toNatClampNeg)]) (rest := []) C UU_in hW hl.1 (c_X10_wires l E S (xs ((nI (6 * k) + 1)).toNatClampNeg) (xs ((nI (6 * k) + 2)).toNatClampNeg) (xs ((nI (6 * k) + 3)).toNatClampNeg) (xs ((nI (6 * k) + 4)).toNatClampNeg) _ _ h1) rfl rfl rfl (in_sid _ rfl) k_RL_27 rfl ⟨rfl, rfl⟩ ⟨Nat.le_of_ble_eq_true rfl, Nat.le_of_ble_eq_true rfl⟩ (cs_ok hk hL) _ rfl (Nat.le_of_ble_eq_true rfl) dL_law_314 (fun H locs hW => ?_)
  refine lv_aload_n hx hb dL_law_317 rfl (lv_at hl 2 rfl) ?_
  refine lv_aload_n hx hb dL_law_318 rfl (lv_at hl 0 rfl) ?_
  refine lv_iload_n hx hb dL_law_319 rfl (lv_at hl 3 rfl) ?_
  refine lv_iconst (v := 1) hx hb dL_law_320 (by decide) ?_
  refine lv_iadd hx hb dL_law_321 ?_
  refine va_sld hx hb hX hbl hbA hW.2.2 (sc_in (j := 1) (by decide) hk hL) dL_law_322 ?_
  refine lv_aload_n hx hb dL_law_323 rfl (lv_at hl 0 rfl) ?_
  refine lv_iload_n hx hb dL_law_324 rfl (lv_at hl 3 rfl) ?_
  refine lv_iconst (v := 2) hx hb dL_law_325 (by decide) ?_
  refine lv_iadd hx hb dL_law_326 ?_
  refine va_sld hx hb hX hbl hbA hW.2.2 (sc_in (j := 2) (by decide) hk hL) dL_law_327 ?_
  refine lv_aload_n hx hb dL_law_328 rfl (lv_at hl 0 rfl) ?_
  refine lv_iload_n hx hb dL_law_329 rfl (lv_at hl 3 rfl) ?_
  refine lv_iconst (v := 3) hx hb dL_law_330 (by decide) ?_
  refine lv_iadd hx hb dL_law_331 ?_
  refine va_sld hx hb hX hbl hbA hW.2.2 (sc_in (j := 3) (by decide) hk hL) dL_law_332 ?_
  refine lv_aload_n hx hb dL_law_333 rfl (lv_at hl 0 rfl) ?_
  refine lv_iload_n hx hb dL_law_334 rfl (lv_at hl 3 rfl) ?_
  refine lv_iconst (v := 4) hx hb dL_law_335 (by decide) ?_
  refine lv_iadd hx hb dL_law_336 ?_
  refine va_sld hx hb hX hbl hbA hW.2.2 (sc_in (j := 4) (by decide) hk hL) dL_law_337 ?_
  refine g_callVi (ci := 11) (As := [.int (xs ((nI (6 * k) + 1)).toNatClampNeg), .int (xs ((nI (6 * k) + 2)).toNatClampNeg), .int (xs ((nI (6 * k) + 3)).toNatClampNeg), .int (xs ((nI (6 * k) + 4)).toNatClampNeg)]) (rest := [.int r]) C UU_in hW hl.1 (c_X11_wires l E S1 (xs ((nI (6 * k) + 1)).toNatClampNeg) (xs ((nI (6 * k) + 2)).toNatClampNeg) (xs ((nI (6 * k) + 3)).toNatClampNeg) (xs ((nI (6 * k) + 4)).toNatClampNeg) _ _ h2) rfl rfl rfl (in_sid _ rfl) k_RL_31 rfl ⟨rfl, rfl⟩ ⟨Nat.le_of_ble_eq_true rfl, Nat.le_of_ble_eq_true rfl⟩ (cs_ok hk hL) _ rfl (Nat.le_of_ble_eq_true rfl) dL_law_338 (fun H locs hW => ?_)
  refine lv_icmp_eq (tgt := 1282) hx hb dL_law_341 (by decide) (fun _ => ?_) (fun c => absurd rfl c)
  exact kN E.ad _ H locs ls _ _ (by omega) (by omega) rfl rfl hI hW hl
set_option maxHeartbeats 4000000 in
set_option maxRecDepth 100000 in
theorem law_pace {p : Program} {e : Env} {s : State} {m : MethodId} {below : List Frame} {meth : Method} {c : Code} {l : Launch} {b L k : Nat} {xs : Nat → Int32} {Inv : St → Prop} {E : En} {S : St} {H : Heap} {locs : List Loc} {ls : Array Slot} (hs : ∀ (S : St) (a0 : Int32), Inv S → ∃ (r : Int32) (S1 : St) (S2 : St), X10_pace S a0 = some (r, S1) ∧ X11_pace S1 a0 = some (r, S2) ∧ Inv S2) (hL : L ≤ 3072) (hk : 6 * k + 6 ≤ L) (hX : va_X b L xs s s.heap) (hbl : b < s.heap.size) (hbA : ¬ Ab E b) (C : Cx E p s m #[Value.ref b] c code 4 RL lw_tbl) (hI : Inv S) (hW : Ww E S s H locs) (hl : lv_has ls 4 [(0, .ref b), (1, .ref (E.ad 0)), (2, .ref (E.ad 60)), (3, .int (nI (6 * k)))])
    (kN : LwN p l e s m below meth c b k Inv E) : W p l e room_1 s m #[Value.ref b] below meth c H locs (63 + 9 * k) (3633 + 254 * k) (lw_Z below #[Value.ref b] s) (F0 m 346 ls []) := by
  obtain ⟨⟨hx, hb, hml, hown, hts⟩, hK, hT⟩ := id C
  obtain ⟨r, S1, S2, h1, h2, hI⟩ := hs S (xs ((nI (6 * k) + 1)).toNatClampNeg) hI
  refine lv_aload_n hx hb dL_law_346 rfl (lv_at hl 1 rfl) ?_
  refine lv_aload_n hx hb dL_law_347 rfl (lv_at hl 0 rfl) ?_
  refine lv_iload_n hx hb dL_law_348 rfl (lv_at hl 3 rfl) ?_
  refine lv_iconst (v := 1) hx hb dL_law_349 (by decide) ?_
  refine lv_iadd hx hb dL_law_350 ?_
  refine va_sld hx hb hX hbl hbA hW.2.2 (sc_in (j := 1) (by decide) hk hL) dL_law_351 ?_
  refine g_callVi (ci := 10) (As := [.int (xs ((nI (6 * k) + 1)).toNatClampNeg)]) (rest := []) C UU_in hW hl.1 (c_X10_pace l E S (xs ((nI (6 * k) + 1)).toNatClampNeg) _ _ h1) rfl rfl rfl (in_sid _ rfl) k_RL_32 rfl ⟨rfl, rfl⟩ ⟨Nat.le_of_ble_eq_true rfl, Nat.le_of_ble_eq_true rfl⟩ (cs_ok hk hL) _ rfl (Nat.le_of_ble_eq_true rfl) dL_law_352 (fun H locs hW => ?_)
  refine lv_aload_n hx hb dL_law_355 rfl (lv_at hl 2 rfl) ?_
  refine lv_aload_n hx hb dL_law_356 rfl (lv_at hl 0 rfl) ?_
  refine lv_iload_n hx hb dL_law_357 rfl (lv_at hl 3 rfl) ?_
  refine lv_iconst (v := 1) hx hb dL_law_358 (by decide) ?_
  refine lv_iadd hx hb dL_law_359 ?_
  refine va_sld hx hb hX hbl hbA hW.2.2 (sc_in (j := 1) (by decide) hk hL) dL_law_360 ?_
  refine g_callVi (ci := 11) (As := [.int (xs ((nI (6 * k) + 1)).toNatClampNeg)]) (rest := [.int r]) C UU_in hW hl.1 (c_X11_pace l E S1 (xs ((nI (6 * k) + 1)).toNatClampNeg) _ _ h2) rfl rfl rfl (in_sid _ rfl) k_RL_35 rfl ⟨rfl, rfl⟩ ⟨Nat.le_of_ble_eq_true rfl, Nat.le_of_ble_eq_true rfl⟩ (cs_ok hk hL) _ rfl (Nat.le_of_ble_eq_true rfl) dL_law_361 (fun H locs hW => ?_)
  refine lv_icmp_eq (tgt := 1282) hx hb dL_law_364 (by decide) (fun _ => ?_) (fun c => absurd rfl c)
  exact kN E.ad _ H locs ls _ _ (by omega) (by omega) rfl rfl hI hW hl
set_option maxHeartbeats 4000000 in
set_option maxRecDepth 100000 in
theorem law_time {p : Program} {e : Env} {s : State} {m : MethodId} {below : List Frame} {meth : Method} {c : Code} {l : Launch} {b L k : Nat} {xs : Nat → Int32} {Inv : St → Prop} {E : En} {S : St} {H : Heap} {locs : List Loc} {ls : Array Slot} (hs : ∀ (S : St) (a0 : Int32) (a1 : Int32), Inv S → ∃ (r : Int32) (S1 : St) (S2 : St), X10_time S a0 a1 = some (r, S1) ∧ X11_time S1 a0 a1 = some (r, S2) ∧ Inv S2) (hL : L ≤ 3072) (hk : 6 * k + 6 ≤ L) (hX : va_X b L xs s s.heap) (hbl : b < s.heap.size) (hbA : ¬ Ab E b) (C : Cx E p s m #[Value.ref b] c code 4 RL lw_tbl) (hI : Inv S) (hW : Ww E S s H locs) (hl : lv_has ls 4 [(0, .ref b), (1, .ref (E.ad 0)), (2, .ref (E.ad 60)), (3, .int (nI (6 * k)))])
    (kN : LwN p l e s m below meth c b k Inv E) : W p l e room_1 s m #[Value.ref b] below meth c H locs (63 + 9 * k) (3633 + 254 * k) (lw_Z below #[Value.ref b] s) (F0 m 369 ls []) := by
  obtain ⟨⟨hx, hb, hml, hown, hts⟩, hK, hT⟩ := id C
  obtain ⟨r, S1, S2, h1, h2, hI⟩ := hs S (xs ((nI (6 * k) + 1)).toNatClampNeg) (xs ((nI (6 * k) + 2)).toNatClampNeg) hI
  refine lv_aload_n hx hb dL_law_369 rfl (lv_at hl 1 rfl) ?_
  refine lv_aload_n hx hb dL_law_370 rfl (lv_at hl 0 rfl) ?_
  refine lv_iload_n hx hb dL_law_371 rfl (lv_at hl 3 rfl) ?_
  refine lv_iconst (v := 1) hx hb dL_law_372 (by decide) ?_
  refine lv_iadd hx hb dL_law_373 ?_
  refine va_sld hx hb hX hbl hbA hW.2.2 (sc_in (j := 1) (by decide) hk hL) dL_law_374 ?_
  refine lv_aload_n hx hb dL_law_375 rfl (lv_at hl 0 rfl) ?_
  refine lv_iload_n hx hb dL_law_376 rfl (lv_at hl 3 rfl) ?_
  refine lv_iconst (v := 2) hx hb dL_law_377 (by decide) ?_
  refine lv_iadd hx hb dL_law_378 ?_
  refine va_sld hx hb hX hbl hbA hW.2.2 (sc_in (j := 2) (by decide) hk hL) dL_law_379 ?_
  refine g_callVi (ci := 10) (As := [.int (xs ((nI (6 * k) + 1)).toNatClampNeg), .int (xs ((nI (6 * k) + 2)).toNatClampNeg)]) (rest := []) C UU_in hW hl.1 (c_X10_time l E S (xs ((nI (6 * k) + 1)).toNatClampNeg) (xs ((nI (6 * k) + 2)).toNatClampNeg) _ _ h1) rfl rfl rfl (in_sid _ rfl) k_RL_36 rfl ⟨rfl, rfl⟩ ⟨Nat.le_of_ble_eq_true rfl, Nat.le_of_ble_eq_true rfl⟩ (cs_ok hk hL) _ rfl (Nat.le_of_ble_eq_true rfl) dL_law_380 (fun H locs hW => ?_)
  refine lv_aload_n hx hb dL_law_383 rfl (lv_at hl 2 rfl) ?_
  refine lv_aload_n hx hb dL_law_384 rfl (lv_at hl 0 rfl) ?_
  refine lv_iload_n hx hb dL_law_385 rfl (lv_at hl 3 rfl) ?_
  refine lv_iconst (v := 1) hx hb dL_law_386 (by decide) ?_
  refine lv_iadd hx hb dL_law_387 ?_
  refine va_sld hx hb hX hbl hbA hW.2.2 (sc_in (j := 1) (by decide) hk hL) dL_law_388 ?_
  refine lv_aload_n hx hb dL_law_389 rfl (lv_at hl 0 rfl) ?_
  refine lv_iload_n hx hb dL_law_390 rfl (lv_at hl 3 rfl) ?_
  refine lv_iconst (v := 2) hx hb dL_law_391 (by decide) ?_
  refine lv_iadd hx hb dL_law_392 ?_
  refine va_sld hx hb hX hbl hbA hW.2.2 (sc_in (j := 2) (by decide) hk hL) dL_law_393 ?_
  refine g_callVi (ci := 11) (As := [.int (xs ((nI (6 * k) + 1)).toNatClampNeg), .int (xs ((nI (6 * k) + 2)).toNatClampNeg)]) (rest := [.int r]) C UU_in hW hl.1 (c_X11_time l E S1 (xs ((nI (6 * k) + 1)).toNatClampNeg) (xs ((nI (6 * k) + 2)).toNatClampNeg) _ _ h2) rfl rfl rfl (in_sid _ rfl) k_RL_40 rfl ⟨rfl, rfl⟩ ⟨Nat.le_of_ble_eq_true rfl, Nat.le_of_ble_eq_true rfl⟩ (cs_ok hk hL) _ rfl (Nat.le_of_ble_eq_true rfl) dL_law_394 (fun H locs hW => ?_)
  refine lv_icmp_eq (tgt := 1282) hx hb dL_law_397 (by decide) (fun _ => ?_) (fun c => absurd rfl c)
  exact kN E.ad _ H locs ls _ _ (by omega) (by omega) rfl rfl hI hW hl
set_option maxHeartbeats 4000000 in
set_option maxRecDepth 100000 in
theorem law_paceAt {p : Program} {e : Env} {s : State} {m : MethodId} {below : List Frame} {meth : Method} {c : Code} {l : Launch} {b L k : Nat} {xs : Nat → Int32} {Inv : St → Prop} {E : En} {S : St} {H : Heap} {locs : List Loc} {ls : Array Slot} (hs : ∀ (S : St) (a0 : Int32), Inv S → ∃ (r : Int32) (S1 : St) (S2 : St), X10_paceAt S a0 = some (r, S1) ∧ X11_paceAt S1 a0 = some (r, S2) ∧ Inv S2) (hL : L ≤ 3072) (hk : 6 * k + 6 ≤ L) (hX : va_X b L xs s s.heap) (hbl : b < s.heap.size) (hbA : ¬ Ab E b) (C : Cx E p s m #[Value.ref b] c code 4 RL lw_tbl) (hI : Inv S) (hW : Ww E S s H locs) (hl : lv_has ls 4 [(0, .ref b), (1, .ref (E.ad 0)), (2, .ref (E.ad 60)), (3, .int (nI (6 * k)))])
    (kN : LwN p l e s m below meth c b k Inv E) : W p l e room_1 s m #[Value.ref b] below meth c H locs (63 + 9 * k) (3633 + 254 * k) (lw_Z below #[Value.ref b] s) (F0 m 402 ls []) := by
  obtain ⟨⟨hx, hb, hml, hown, hts⟩, hK, hT⟩ := id C
  obtain ⟨r, S1, S2, h1, h2, hI⟩ := hs S (xs ((nI (6 * k) + 1)).toNatClampNeg) hI
  refine lv_aload_n hx hb dL_law_402 rfl (lv_at hl 1 rfl) ?_
  refine lv_aload_n hx hb dL_law_403 rfl (lv_at hl 0 rfl) ?_
  refine lv_iload_n hx hb dL_law_404 rfl (lv_at hl 3 rfl) ?_
  refine lv_iconst (v := 1) hx hb dL_law_405 (by decide) ?_
  refine lv_iadd hx hb dL_law_406 ?_
  refine va_sld hx hb hX hbl hbA hW.2.2 (sc_in (j := 1) (by decide) hk hL) dL_law_407 ?_
  refine g_callVi (ci := 10) (As := [.int (xs ((nI (6 * k) + 1)).toNatClampNeg)]) (rest := []) C UU_in hW hl.1 (c_X10_paceAt l E S (xs ((nI (6 * k) + 1)).toNatClampNeg) _ _ h1) rfl rfl rfl (in_sid _ rfl) k_RL_41 rfl ⟨rfl, rfl⟩ ⟨Nat.le_of_ble_eq_true rfl, Nat.le_of_ble_eq_true rfl⟩ (cs_ok hk hL) _ rfl (Nat.le_of_ble_eq_true rfl) dL_law_408 (fun H locs hW => ?_)
  refine lv_aload_n hx hb dL_law_411 rfl (lv_at hl 2 rfl) ?_
  refine lv_aload_n hx hb dL_law_412 rfl (lv_at hl 0 rfl) ?_
  refine lv_iload_n hx hb dL_law_413 rfl (lv_at hl 3 rfl) ?_
  refine lv_iconst (v := 1) hx hb dL_law_414 (by decide) ?_
  refine lv_iadd hx hb dL_law_415 ?_
  refine va_sld hx hb hX hbl hbA hW.2.2 (sc_in (j := 1) (by decide) hk hL) dL_law_416 ?_
  refine g_callVi (ci := 11) (As := [.int (xs ((nI (6 * k) + 1)).toNatClampNeg)]) (rest := [.int r]) C UU_in hW hl.1 (c_X11_paceAt l E S1 (xs ((nI (6 * k) + 1)).toNatClampNeg) _ _ h2) rfl rfl rfl (in_sid _ rfl) k_RL_44 rfl ⟨rfl, rfl⟩ ⟨Nat.le_of_ble_eq_true rfl, Nat.le_of_ble_eq_true rfl⟩ (cs_ok hk hL) _ rfl (Nat.le_of_ble_eq_true rfl) dL_law_417 (fun H locs hW => ?_)
  refine lv_icmp_eq (tgt := 1282) hx hb dL_law_420 (by decide) (fun _ => ?_) (fun c => absurd rfl c)
  exact kN E.ad _ H locs ls _ _ (by omega) (by omega) rfl rfl hI hW hl
set_option maxHeartbeats 4000000 in
set_option maxRecDepth 100000 in
theorem law_slows {p : Program} {e : Env} {s : State} {m : MethodId} {below : List Frame} {meth : Method} {c : Code} {l : Launch} {b L k : Nat} {xs : Nat → Int32} {Inv : St → Prop} {E : En} {S : St} {H : Heap} {locs : List Loc} {ls : Array Slot} (hs : ∀ (S : St) (a0 : Int32) (a1 : Int32), Inv S → ∃ (r : Int32) (S1 : St) (S2 : St), X10_slows S a0 a1 = some (r, S1) ∧ X11_slows S1 a0 a1 = some (r, S2) ∧ Inv S2) (hL : L ≤ 3072) (hk : 6 * k + 6 ≤ L) (hX : va_X b L xs s s.heap) (hbl : b < s.heap.size) (hbA : ¬ Ab E b) (C : Cx E p s m #[Value.ref b] c code 4 RL lw_tbl) (hI : Inv S) (hW : Ww E S s H locs) (hl : lv_has ls 4 [(0, .ref b), (1, .ref (E.ad 0)), (2, .ref (E.ad 60)), (3, .int (nI (6 * k)))])
    (kN : LwN p l e s m below meth c b k Inv E) : W p l e room_1 s m #[Value.ref b] below meth c H locs (63 + 9 * k) (3633 + 254 * k) (lw_Z below #[Value.ref b] s) (F0 m 425 ls []) := by
  obtain ⟨⟨hx, hb, hml, hown, hts⟩, hK, hT⟩ := id C
  obtain ⟨r, S1, S2, h1, h2, hI⟩ := hs S (xs ((nI (6 * k) + 1)).toNatClampNeg) (xs ((nI (6 * k) + 2)).toNatClampNeg) hI
  refine lv_aload_n hx hb dL_law_425 rfl (lv_at hl 1 rfl) ?_
  refine lv_aload_n hx hb dL_law_426 rfl (lv_at hl 0 rfl) ?_
  refine lv_iload_n hx hb dL_law_427 rfl (lv_at hl 3 rfl) ?_
  refine lv_iconst (v := 1) hx hb dL_law_428 (by decide) ?_
  refine lv_iadd hx hb dL_law_429 ?_
  refine va_sld hx hb hX hbl hbA hW.2.2 (sc_in (j := 1) (by decide) hk hL) dL_law_430 ?_
  refine lv_aload_n hx hb dL_law_431 rfl (lv_at hl 0 rfl) ?_
  refine lv_iload_n hx hb dL_law_432 rfl (lv_at hl 3 rfl) ?_
  refine lv_iconst (v := 2) hx hb dL_law_433 (by decide) ?_
  refine lv_iadd hx hb dL_law_434 ?_
  refine va_sld hx hb hX hbl hbA hW.2.2 (sc_in (j := 2) (by decide) hk hL) dL_law_435 ?_
  refine g_callVi (ci := 10) (As := [.int (xs ((nI (6 * k) + 1)).toNatClampNeg), .int (xs ((nI (6 * k) + 2)).toNatClampNeg)]) (rest := []) C UU_in hW hl.1 (c_X10_slows l E S (xs ((nI (6 * k) + 1)).toNatClampNeg) (xs ((nI (6 * k) + 2)).toNatClampNeg) _ _ h1) rfl rfl rfl (in_sid _ rfl) k_RL_45 rfl ⟨rfl, rfl⟩ ⟨Nat.le_of_ble_eq_true rfl, Nat.le_of_ble_eq_true rfl⟩ (cs_ok hk hL) _ rfl (Nat.le_of_ble_eq_true rfl) dL_law_436 (fun H locs hW => ?_)
  refine lv_aload_n hx hb dL_law_439 rfl (lv_at hl 2 rfl) ?_
  refine lv_aload_n hx hb dL_law_440 rfl (lv_at hl 0 rfl) ?_
  refine lv_iload_n hx hb dL_law_441 rfl (lv_at hl 3 rfl) ?_
  refine lv_iconst (v := 1) hx hb dL_law_442 (by decide) ?_
  refine lv_iadd hx hb dL_law_443 ?_
  refine va_sld hx hb hX hbl hbA hW.2.2 (sc_in (j := 1) (by decide) hk hL) dL_law_444 ?_
  refine lv_aload_n hx hb dL_law_445 rfl (lv_at hl 0 rfl) ?_
  refine lv_iload_n hx hb dL_law_446 rfl (lv_at hl 3 rfl) ?_
  refine lv_iconst (v := 2) hx hb dL_law_447 (by decide) ?_
  refine lv_iadd hx hb dL_law_448 ?_
  refine va_sld hx hb hX hbl hbA hW.2.2 (sc_in (j := 2) (by decide) hk hL) dL_law_449 ?_
  refine g_callVi (ci := 11) (As := [.int (xs ((nI (6 * k) + 1)).toNatClampNeg), .int (xs ((nI (6 * k) + 2)).toNatClampNeg)]) (rest := [.int r]) C UU_in hW hl.1 (c_X11_slows l E S1 (xs ((nI (6 * k) + 1)).toNatClampNeg) (xs ((nI (6 * k) + 2)).toNatClampNeg) _ _ h2) rfl rfl rfl (in_sid _ rfl) k_RL_48 rfl ⟨rfl, rfl⟩ ⟨Nat.le_of_ble_eq_true rfl, Nat.le_of_ble_eq_true rfl⟩ (cs_ok hk hL) _ rfl (Nat.le_of_ble_eq_true rfl) dL_law_450 (fun H locs hW => ?_)
  refine lv_icmp_eq (tgt := 1282) hx hb dL_law_453 (by decide) (fun _ => ?_) (fun c => absurd rfl c)
  exact kN E.ad _ H locs ls _ _ (by omega) (by omega) rfl rfl hI hW hl
set_option maxHeartbeats 4000000 in
set_option maxRecDepth 100000 in
theorem law_apart {p : Program} {e : Env} {s : State} {m : MethodId} {below : List Frame} {meth : Method} {c : Code} {l : Launch} {b L k : Nat} {xs : Nat → Int32} {Inv : St → Prop} {E : En} {S : St} {H : Heap} {locs : List Loc} {ls : Array Slot} (hs : ∀ (S : St) (a0 : Int32), Inv S → ∃ (r : Int32) (S1 : St) (S2 : St), X10_apart S a0 = some (r, S1) ∧ X11_apart S1 a0 = some (r, S2) ∧ Inv S2) (hL : L ≤ 3072) (hk : 6 * k + 6 ≤ L) (hX : va_X b L xs s s.heap) (hbl : b < s.heap.size) (hbA : ¬ Ab E b) (C : Cx E p s m #[Value.ref b] c code 4 RL lw_tbl) (hI : Inv S) (hW : Ww E S s H locs) (hl : lv_has ls 4 [(0, .ref b), (1, .ref (E.ad 0)), (2, .ref (E.ad 60)), (3, .int (nI (6 * k)))])
    (kN : LwN p l e s m below meth c b k Inv E) : W p l e room_1 s m #[Value.ref b] below meth c H locs (63 + 9 * k) (3633 + 254 * k) (lw_Z below #[Value.ref b] s) (F0 m 458 ls []) := by
  obtain ⟨⟨hx, hb, hml, hown, hts⟩, hK, hT⟩ := id C
  obtain ⟨r, S1, S2, h1, h2, hI⟩ := hs S (xs ((nI (6 * k) + 1)).toNatClampNeg) hI
  refine lv_aload_n hx hb dL_law_458 rfl (lv_at hl 1 rfl) ?_
  refine lv_aload_n hx hb dL_law_459 rfl (lv_at hl 0 rfl) ?_
  refine lv_iload_n hx hb dL_law_460 rfl (lv_at hl 3 rfl) ?_
  refine lv_iconst (v := 1) hx hb dL_law_461 (by decide) ?_
  refine lv_iadd hx hb dL_law_462 ?_
  refine va_sld hx hb hX hbl hbA hW.2.2 (sc_in (j := 1) (by decide) hk hL) dL_law_463 ?_
  refine g_callVi (ci := 10) (As := [.int (xs ((nI (6 * k) + 1)).toNatClampNeg)]) (rest := []) C UU_in hW hl.1 (c_X10_apart l E S (xs ((nI (6 * k) + 1)).toNatClampNeg) _ _ h1) rfl rfl rfl (in_sid _ rfl) k_RL_49 rfl ⟨rfl, rfl⟩ ⟨Nat.le_of_ble_eq_true rfl, Nat.le_of_ble_eq_true rfl⟩ (cs_ok hk hL) _ rfl (Nat.le_of_ble_eq_true rfl) dL_law_464 (fun H locs hW => ?_)
  refine lv_aload_n hx hb dL_law_467 rfl (lv_at hl 2 rfl) ?_
  refine lv_aload_n hx hb dL_law_468 rfl (lv_at hl 0 rfl) ?_
  refine lv_iload_n hx hb dL_law_469 rfl (lv_at hl 3 rfl) ?_
  refine lv_iconst (v := 1) hx hb dL_law_470 (by decide) ?_
  refine lv_iadd hx hb dL_law_471 ?_
  refine va_sld hx hb hX hbl hbA hW.2.2 (sc_in (j := 1) (by decide) hk hL) dL_law_472 ?_
  refine g_callVi (ci := 11) (As := [.int (xs ((nI (6 * k) + 1)).toNatClampNeg)]) (rest := [.int r]) C UU_in hW hl.1 (c_X11_apart l E S1 (xs ((nI (6 * k) + 1)).toNatClampNeg) _ _ h2) rfl rfl rfl (in_sid _ rfl) k_RL_52 rfl ⟨rfl, rfl⟩ ⟨Nat.le_of_ble_eq_true rfl, Nat.le_of_ble_eq_true rfl⟩ (cs_ok hk hL) _ rfl (Nat.le_of_ble_eq_true rfl) dL_law_473 (fun H locs hW => ?_)
  refine lv_icmp_eq (tgt := 1282) hx hb dL_law_476 (by decide) (fun _ => ?_) (fun c => absurd rfl c)
  exact kN E.ad _ H locs ls _ _ (by omega) (by omega) rfl rfl hI hW hl
set_option maxHeartbeats 4000000 in
set_option maxRecDepth 100000 in
theorem law_count {p : Program} {e : Env} {s : State} {m : MethodId} {below : List Frame} {meth : Method} {c : Code} {l : Launch} {b L k : Nat} {xs : Nat → Int32} {Inv : St → Prop} {E : En} {S : St} {H : Heap} {locs : List Loc} {ls : Array Slot} (hs : ∀ (S : St) (a0 : Int32), Inv S → ∃ (r : Int32), X10_count S a0 = some r ∧ X11_count S a0 = some r ∧ Inv S) (hL : L ≤ 3072) (hk : 6 * k + 6 ≤ L) (hX : va_X b L xs s s.heap) (hbl : b < s.heap.size) (hbA : ¬ Ab E b) (C : Cx E p s m #[Value.ref b] c code 4 RL lw_tbl) (hI : Inv S) (hW : Ww E S s H locs) (hl : lv_has ls 4 [(0, .ref b), (1, .ref (E.ad 0)), (2, .ref (E.ad 60)), (3, .int (nI (6 * k)))])
    (kN : LwN p l e s m below meth c b k Inv E) : W p l e room_1 s m #[Value.ref b] below meth c H locs (63 + 9 * k) (3633 + 254 * k) (lw_Z below #[Value.ref b] s) (F0 m 481 ls []) := by
  obtain ⟨⟨hx, hb, hml, hown, hts⟩, hK, hT⟩ := id C
  obtain ⟨r, h1, h2, hI⟩ := hs S (xs ((nI (6 * k) + 1)).toNatClampNeg) hI
  refine lv_aload_n hx hb dL_law_481 rfl (lv_at hl 1 rfl) ?_
  refine lv_aload_n hx hb dL_law_482 rfl (lv_at hl 0 rfl) ?_
  refine lv_iload_n hx hb dL_law_483 rfl (lv_at hl 3 rfl) ?_
  refine lv_iconst (v := 1) hx hb dL_law_484 (by decide) ?_
  refine lv_iadd hx hb dL_law_485 ?_
  refine va_sld hx hb hX hbl hbA hW.2.2 (sc_in (j := 1) (by decide) hk hL) dL_law_486 ?_
  refine g_callVi (ci := 10) (As := [.int (xs ((nI (6 * k) + 1)).toNatClampNeg)]) (rest := []) C UU_in hW hl.1 (c_X10_count l E S (xs ((nI (6 * k) + 1)).toNatClampNeg) _ h1) rfl rfl rfl (in_sid _ rfl) k_RL_53 rfl ⟨rfl, rfl⟩ ⟨Nat.le_of_ble_eq_true rfl, Nat.le_of_ble_eq_true rfl⟩ (cs_ok hk hL) _ rfl (Nat.le_of_ble_eq_true rfl) dL_law_487 (fun H locs hW => ?_)
  refine lv_aload_n hx hb dL_law_490 rfl (lv_at hl 2 rfl) ?_
  refine lv_aload_n hx hb dL_law_491 rfl (lv_at hl 0 rfl) ?_
  refine lv_iload_n hx hb dL_law_492 rfl (lv_at hl 3 rfl) ?_
  refine lv_iconst (v := 1) hx hb dL_law_493 (by decide) ?_
  refine lv_iadd hx hb dL_law_494 ?_
  refine va_sld hx hb hX hbl hbA hW.2.2 (sc_in (j := 1) (by decide) hk hL) dL_law_495 ?_
  refine g_callVi (ci := 11) (As := [.int (xs ((nI (6 * k) + 1)).toNatClampNeg)]) (rest := [.int r]) C UU_in hW hl.1 (c_X11_count l E S (xs ((nI (6 * k) + 1)).toNatClampNeg) _ h2) rfl rfl rfl (in_sid _ rfl) k_RL_56 rfl ⟨rfl, rfl⟩ ⟨Nat.le_of_ble_eq_true rfl, Nat.le_of_ble_eq_true rfl⟩ (cs_ok hk hL) _ rfl (Nat.le_of_ble_eq_true rfl) dL_law_496 (fun H locs hW => ?_)
  refine lv_icmp_eq (tgt := 1282) hx hb dL_law_499 (by decide) (fun _ => ?_) (fun c => absurd rfl c)
  exact kN E.ad _ H locs ls _ _ (by omega) (by omega) rfl rfl hI hW hl
set_option maxHeartbeats 4000000 in
set_option maxRecDepth 100000 in
theorem law_hold {p : Program} {e : Env} {s : State} {m : MethodId} {below : List Frame} {meth : Method} {c : Code} {l : Launch} {b L k : Nat} {xs : Nat → Int32} {Inv : St → Prop} {E : En} {S : St} {H : Heap} {locs : List Loc} {ls : Array Slot} (hs : ∀ (S : St) (a0 : Int32) (a1 : Int32), Inv S → ∃ (r : Int32), X10_hold S a0 a1 = some r ∧ X11_hold S a0 a1 = some r ∧ Inv S) (hL : L ≤ 3072) (hk : 6 * k + 6 ≤ L) (hX : va_X b L xs s s.heap) (hbl : b < s.heap.size) (hbA : ¬ Ab E b) (C : Cx E p s m #[Value.ref b] c code 4 RL lw_tbl) (hI : Inv S) (hW : Ww E S s H locs) (hl : lv_has ls 4 [(0, .ref b), (1, .ref (E.ad 0)), (2, .ref (E.ad 60)), (3, .int (nI (6 * k)))])
    (kN : LwN p l e s m below meth c b k Inv E) : W p l e room_1 s m #[Value.ref b] below meth c H locs (63 + 9 * k) (3633 + 254 * k) (lw_Z below #[Value.ref b] s) (F0 m 504 ls []) := by
  obtain ⟨⟨hx, hb, hml, hown, hts⟩, hK, hT⟩ := id C
  obtain ⟨r, h1, h2, hI⟩ := hs S (xs ((nI (6 * k) + 1)).toNatClampNeg) (xs ((nI (6 * k) + 2)).toNatClampNeg) hI
  refine lv_aload_n hx hb dL_law_504 rfl (lv_at hl 1 rfl) ?_
  refine lv_aload_n hx hb dL_law_505 rfl (lv_at hl 0 rfl) ?_
  refine lv_iload_n hx hb dL_law_506 rfl (lv_at hl 3 rfl) ?_
  refine lv_iconst (v := 1) hx hb dL_law_507 (by decide) ?_
  refine lv_iadd hx hb dL_law_508 ?_
  refine va_sld hx hb hX hbl hbA hW.2.2 (sc_in (j := 1) (by decide) hk hL) dL_law_509 ?_
  refine lv_aload_n hx hb dL_law_510 rfl (lv_at hl 0 rfl) ?_
  refine lv_iload_n hx hb dL_law_511 rfl (lv_at hl 3 rfl) ?_
  refine lv_iconst (v := 2) hx hb dL_law_512 (by decide) ?_
  refine lv_iadd hx hb dL_law_513 ?_
  refine va_sld hx hb hX hbl hbA hW.2.2 (sc_in (j := 2) (by decide) hk hL) dL_law_514 ?_
  refine g_callVi (ci := 10) (As := [.int (xs ((nI (6 * k) + 1)).toNatClampNeg), .int (xs ((nI (6 * k) + 2)).toNatClampNeg)]) (rest := []) C UU_in hW hl.1 (c_X10_hold l E S (xs ((nI (6 * k) + 1)).toNatClampNeg) (xs ((nI (6 * k) + 2)).toNatClampNeg) _ h1) rfl rfl rfl (in_sid _ rfl) k_RL_57 rfl ⟨rfl, rfl⟩ ⟨Nat.le_of_ble_eq_true rfl, Nat.le_of_ble_eq_true rfl⟩ (cs_ok hk hL) _ rfl (Nat.le_of_ble_eq_true rfl) dL_law_515 (fun H locs hW => ?_)
  refine lv_aload_n hx hb dL_law_518 rfl (lv_at hl 2 rfl) ?_
  refine lv_aload_n hx hb dL_law_519 rfl (lv_at hl 0 rfl) ?_
  refine lv_iload_n hx hb dL_law_520 rfl (lv_at hl 3 rfl) ?_
  refine lv_iconst (v := 1) hx hb dL_law_521 (by decide) ?_
  refine lv_iadd hx hb dL_law_522 ?_
  refine va_sld hx hb hX hbl hbA hW.2.2 (sc_in (j := 1) (by decide) hk hL) dL_law_523 ?_
  refine lv_aload_n hx hb dL_law_524 rfl (lv_at hl 0 rfl) ?_
  refine lv_iload_n hx hb dL_law_525 rfl (lv_at hl 3 rfl) ?_
  refine lv_iconst (v := 2) hx hb dL_law_526 (by decide) ?_
  refine lv_iadd hx hb dL_law_527 ?_
  refine va_sld hx hb hX hbl hbA hW.2.2 (sc_in (j := 2) (by decide) hk hL) dL_law_528 ?_
  refine g_callVi (ci := 11) (As := [.int (xs ((nI (6 * k) + 1)).toNatClampNeg), .int (xs ((nI (6 * k) + 2)).toNatClampNeg)]) (rest := [.int r]) C UU_in hW hl.1 (c_X11_hold l E S (xs ((nI (6 * k) + 1)).toNatClampNeg) (xs ((nI (6 * k) + 2)).toNatClampNeg) _ h2) rfl rfl rfl (in_sid _ rfl) k_RL_60 rfl ⟨rfl, rfl⟩ ⟨Nat.le_of_ble_eq_true rfl, Nat.le_of_ble_eq_true rfl⟩ (cs_ok hk hL) _ rfl (Nat.le_of_ble_eq_true rfl) dL_law_529 (fun H locs hW => ?_)
  refine lv_icmp_eq (tgt := 1282) hx hb dL_law_532 (by decide) (fun _ => ?_) (fun c => absurd rfl c)
  exact kN E.ad _ H locs ls _ _ (by omega) (by omega) rfl rfl hI hW hl
set_option maxHeartbeats 4000000 in
set_option maxRecDepth 100000 in
theorem law_together {p : Program} {e : Env} {s : State} {m : MethodId} {below : List Frame} {meth : Method} {c : Code} {l : Launch} {b L k : Nat} {xs : Nat → Int32} {Inv : St → Prop} {E : En} {S : St} {H : Heap} {locs : List Loc} {ls : Array Slot} (hs : ∀ (S : St) (a0 : Int32) (a1 : Int32), Inv S → ∃ (r : Int32) (S1 : St) (S2 : St), X10_together S a0 a1 = some (r, S1) ∧ X11_together S1 a0 a1 = some (r, S2) ∧ Inv S2) (hL : L ≤ 3072) (hk : 6 * k + 6 ≤ L) (hX : va_X b L xs s s.heap) (hbl : b < s.heap.size) (hbA : ¬ Ab E b) (C : Cx E p s m #[Value.ref b] c code 4 RL lw_tbl) (hI : Inv S) (hW : Ww E S s H locs) (hl : lv_has ls 4 [(0, .ref b), (1, .ref (E.ad 0)), (2, .ref (E.ad 60)), (3, .int (nI (6 * k)))])
    (kN : LwN p l e s m below meth c b k Inv E) : W p l e room_1 s m #[Value.ref b] below meth c H locs (63 + 9 * k) (3633 + 254 * k) (lw_Z below #[Value.ref b] s) (F0 m 537 ls []) := by
  obtain ⟨⟨hx, hb, hml, hown, hts⟩, hK, hT⟩ := id C
  obtain ⟨r, S1, S2, h1, h2, hI⟩ := hs S (xs ((nI (6 * k) + 1)).toNatClampNeg) (xs ((nI (6 * k) + 2)).toNatClampNeg) hI
  refine lv_aload_n hx hb dL_law_537 rfl (lv_at hl 1 rfl) ?_
  refine lv_aload_n hx hb dL_law_538 rfl (lv_at hl 0 rfl) ?_
  refine lv_iload_n hx hb dL_law_539 rfl (lv_at hl 3 rfl) ?_
  refine lv_iconst (v := 1) hx hb dL_law_540 (by decide) ?_
  refine lv_iadd hx hb dL_law_541 ?_
  refine va_sld hx hb hX hbl hbA hW.2.2 (sc_in (j := 1) (by decide) hk hL) dL_law_542 ?_
  refine lv_aload_n hx hb dL_law_543 rfl (lv_at hl 0 rfl) ?_
  refine lv_iload_n hx hb dL_law_544 rfl (lv_at hl 3 rfl) ?_
  refine lv_iconst (v := 2) hx hb dL_law_545 (by decide) ?_
  refine lv_iadd hx hb dL_law_546 ?_
  refine va_sld hx hb hX hbl hbA hW.2.2 (sc_in (j := 2) (by decide) hk hL) dL_law_547 ?_
  refine g_callVi (ci := 10) (As := [.int (xs ((nI (6 * k) + 1)).toNatClampNeg), .int (xs ((nI (6 * k) + 2)).toNatClampNeg)]) (rest := []) C UU_in hW hl.1 (c_X10_together l E S (xs ((nI (6 * k) + 1)).toNatClampNeg) (xs ((nI (6 * k) + 2)).toNatClampNeg) _ _ h1) rfl rfl rfl (in_sid _ rfl) k_RL_61 rfl ⟨rfl, rfl⟩ ⟨Nat.le_of_ble_eq_true rfl, Nat.le_of_ble_eq_true rfl⟩ (cs_ok hk hL) _ rfl (Nat.le_of_ble_eq_true rfl) dL_law_548 (fun H locs hW => ?_)
  refine lv_aload_n hx hb dL_law_551 rfl (lv_at hl 2 rfl) ?_
  refine lv_aload_n hx hb dL_law_552 rfl (lv_at hl 0 rfl) ?_
  refine lv_iload_n hx hb dL_law_553 rfl (lv_at hl 3 rfl) ?_
  refine lv_iconst (v := 1) hx hb dL_law_554 (by decide) ?_
  refine lv_iadd hx hb dL_law_555 ?_
  refine va_sld hx hb hX hbl hbA hW.2.2 (sc_in (j := 1) (by decide) hk hL) dL_law_556 ?_
  refine lv_aload_n hx hb dL_law_557 rfl (lv_at hl 0 rfl) ?_
  refine lv_iload_n hx hb dL_law_558 rfl (lv_at hl 3 rfl) ?_
  refine lv_iconst (v := 2) hx hb dL_law_559 (by decide) ?_
  refine lv_iadd hx hb dL_law_560 ?_
  refine va_sld hx hb hX hbl hbA hW.2.2 (sc_in (j := 2) (by decide) hk hL) dL_law_561 ?_
  refine g_callVi (ci := 11) (As := [.int (xs ((nI (6 * k) + 1)).toNatClampNeg), .int (xs ((nI (6 * k) + 2)).toNatClampNeg)]) (rest := [.int r]) C UU_in hW hl.1 (c_X11_together l E S1 (xs ((nI (6 * k) + 1)).toNatClampNeg) (xs ((nI (6 * k) + 2)).toNatClampNeg) _ _ h2) rfl rfl rfl (in_sid _ rfl) k_RL_64 rfl ⟨rfl, rfl⟩ ⟨Nat.le_of_ble_eq_true rfl, Nat.le_of_ble_eq_true rfl⟩ (cs_ok hk hL) _ rfl (Nat.le_of_ble_eq_true rfl) dL_law_562 (fun H locs hW => ?_)
  refine lv_icmp_eq (tgt := 1282) hx hb dL_law_565 (by decide) (fun _ => ?_) (fun c => absurd rfl c)
  exact kN E.ad _ H locs ls _ _ (by omega) (by omega) rfl rfl hI hW hl
set_option maxHeartbeats 4000000 in
set_option maxRecDepth 100000 in
theorem law_type {p : Program} {e : Env} {s : State} {m : MethodId} {below : List Frame} {meth : Method} {c : Code} {l : Launch} {b L k : Nat} {xs : Nat → Int32} {Inv : St → Prop} {E : En} {S : St} {H : Heap} {locs : List Loc} {ls : Array Slot} (hs : ∀ (S : St) (a0 : Int64) (a1 : Int32), Inv S → ∃ (r : Int32) (S1 : St) (S2 : St), X10_type S a0 a1 = some (r, S1) ∧ X11_type S1 a0 a1 = some (r, S2) ∧ Inv S2) (hL : L ≤ 3072) (hk : 6 * k + 6 ≤ L) (hX : va_X b L xs s s.heap) (hbl : b < s.heap.size) (hbA : ¬ Ab E b) (C : Cx E p s m #[Value.ref b] c code 4 RL lw_tbl) (hI : Inv S) (hW : Ww E S s H locs) (hl : lv_has ls 4 [(0, .ref b), (1, .ref (E.ad 0)), (2, .ref (E.ad 60)), (3, .int (nI (6 * k)))])
    (kN : LwN p l e s m below meth c b k Inv E) : W p l e room_1 s m #[Value.ref b] below meth c H locs (63 + 9 * k) (3633 + 254 * k) (lw_Z below #[Value.ref b] s) (F0 m 570 ls []) := by
  obtain ⟨⟨hx, hb, hml, hown, hts⟩, hK, hT⟩ := id C
  obtain ⟨r, S1, S2, h1, h2, hI⟩ := hs S ((((xs ((nI (6 * k) + 1)).toNatClampNeg) : Int32).toInt64 <<< ((32 : Int32).toInt64 &&& 63)) ||| (((xs ((nI (6 * k) + 2)).toNatClampNeg) : Int32).toInt64 &&& 4294967295)) (xs ((nI (6 * k) + 3)).toNatClampNeg) hI
  refine lv_aload_n hx hb dL_law_570 rfl (lv_at hl 1 rfl) ?_
  refine lv_aload_n hx hb dL_law_571 rfl (lv_at hl 0 rfl) ?_
  refine lv_iload_n hx hb dL_law_572 rfl (lv_at hl 3 rfl) ?_
  refine lv_iconst (v := 1) hx hb dL_law_573 (by decide) ?_
  refine lv_iadd hx hb dL_law_574 ?_
  refine va_sld hx hb hX hbl hbA hW.2.2 (sc_in (j := 1) (by decide) hk hL) dL_law_575 ?_
  refine lv_i2l (v := ((xs ((nI (6 * k) + 1)).toNatClampNeg) : Int32).toInt64) hx hb dL_law_576 rfl ?_
  refine lv_bipush (v := 32) hx hb dL_law_577 (by decide) ?_
  refine lv_lshl (v := (((xs ((nI (6 * k) + 1)).toNatClampNeg) : Int32).toInt64 <<< ((32 : Int32).toInt64 &&& 63))) hx hb dL_law_579 rfl ?_
  refine lv_aload_n hx hb dL_law_580 rfl (lv_at hl 0 rfl) ?_
  refine lv_iload_n hx hb dL_law_581 rfl (lv_at hl 3 rfl) ?_
  refine lv_iconst (v := 2) hx hb dL_law_582 (by decide) ?_
  refine lv_iadd hx hb dL_law_583 ?_
  refine va_sld hx hb hX hbl hbA hW.2.2 (sc_in (j := 2) (by decide) hk hL) dL_law_584 ?_
  refine lv_i2l (v := ((xs ((nI (6 * k) + 2)).toNatClampNeg) : Int32).toInt64) hx hb dL_law_585 rfl ?_
  refine lv_ldc2 hx hb hown (hts _ (UU_in _ q_RL_65)) dL_law_586 ?_
  refine lv_land hx hb dL_law_589 ?_
  refine lv_lor hx hb dL_law_590 ?_
  refine lv_aload_n hx hb dL_law_591 rfl (lv_at hl 0 rfl) ?_
  refine lv_iload_n hx hb dL_law_592 rfl (lv_at hl 3 rfl) ?_
  refine lv_iconst (v := 3) hx hb dL_law_593 (by decide) ?_
  refine lv_iadd hx hb dL_law_594 ?_
  refine va_sld hx hb hX hbl hbA hW.2.2 (sc_in (j := 3) (by decide) hk hL) dL_law_595 ?_
  refine g_callVi (ci := 10) (As := [.long ((((xs ((nI (6 * k) + 1)).toNatClampNeg) : Int32).toInt64 <<< ((32 : Int32).toInt64 &&& 63)) ||| (((xs ((nI (6 * k) + 2)).toNatClampNeg) : Int32).toInt64 &&& 4294967295)), .int (xs ((nI (6 * k) + 3)).toNatClampNeg)]) (rest := []) C UU_in hW hl.1 (c_X10_type l E S ((((xs ((nI (6 * k) + 1)).toNatClampNeg) : Int32).toInt64 <<< ((32 : Int32).toInt64 &&& 63)) ||| (((xs ((nI (6 * k) + 2)).toNatClampNeg) : Int32).toInt64 &&& 4294967295)) (xs ((nI (6 * k) + 3)).toNatClampNeg) _ _ h1) rfl rfl rfl (in_sid _ rfl) k_RL_67 rfl ⟨rfl, rfl⟩ ⟨Nat.le_of_ble_eq_true rfl, Nat.le_of_ble_eq_true rfl⟩ (cs_ok hk hL) _ rfl (Nat.le_of_ble_eq_true rfl) dL_law_596 (fun H locs hW => ?_)
  refine lv_aload_n hx hb dL_law_599 rfl (lv_at hl 2 rfl) ?_
  refine lv_aload_n hx hb dL_law_600 rfl (lv_at hl 0 rfl) ?_
  refine lv_iload_n hx hb dL_law_601 rfl (lv_at hl 3 rfl) ?_
  refine lv_iconst (v := 1) hx hb dL_law_602 (by decide) ?_
  refine lv_iadd hx hb dL_law_603 ?_
  refine va_sld hx hb hX hbl hbA hW.2.2 (sc_in (j := 1) (by decide) hk hL) dL_law_604 ?_
  refine lv_i2l (v := ((xs ((nI (6 * k) + 1)).toNatClampNeg) : Int32).toInt64) hx hb dL_law_605 rfl ?_
  refine lv_bipush (v := 32) hx hb dL_law_606 (by decide) ?_
  refine lv_lshl (v := (((xs ((nI (6 * k) + 1)).toNatClampNeg) : Int32).toInt64 <<< ((32 : Int32).toInt64 &&& 63))) hx hb dL_law_608 rfl ?_
  refine lv_aload_n hx hb dL_law_609 rfl (lv_at hl 0 rfl) ?_
  refine lv_iload_n hx hb dL_law_610 rfl (lv_at hl 3 rfl) ?_
  refine lv_iconst (v := 2) hx hb dL_law_611 (by decide) ?_
  refine lv_iadd hx hb dL_law_612 ?_
  refine va_sld hx hb hX hbl hbA hW.2.2 (sc_in (j := 2) (by decide) hk hL) dL_law_613 ?_
  refine lv_i2l (v := ((xs ((nI (6 * k) + 2)).toNatClampNeg) : Int32).toInt64) hx hb dL_law_614 rfl ?_
  refine lv_ldc2 hx hb hown (hts _ (UU_in _ q_RL_65)) dL_law_615 ?_
  refine lv_land hx hb dL_law_618 ?_
  refine lv_lor hx hb dL_law_619 ?_
  refine lv_aload_n hx hb dL_law_620 rfl (lv_at hl 0 rfl) ?_
  refine lv_iload_n hx hb dL_law_621 rfl (lv_at hl 3 rfl) ?_
  refine lv_iconst (v := 3) hx hb dL_law_622 (by decide) ?_
  refine lv_iadd hx hb dL_law_623 ?_
  refine va_sld hx hb hX hbl hbA hW.2.2 (sc_in (j := 3) (by decide) hk hL) dL_law_624 ?_
  refine g_callVi (ci := 11) (As := [.long ((((xs ((nI (6 * k) + 1)).toNatClampNeg) : Int32).toInt64 <<< ((32 : Int32).toInt64 &&& 63)) ||| (((xs ((nI (6 * k) + 2)).toNatClampNeg) : Int32).toInt64 &&& 4294967295)), .int (xs ((nI (6 * k) + 3)).toNatClampNeg)]) (rest := [.int r]) C UU_in hW hl.1 (c_X11_type l E S1 ((((xs ((nI (6 * k) + 1)).toNatClampNeg) : Int32).toInt64 <<< ((32 : Int32).toInt64 &&& 63)) ||| (((xs ((nI (6 * k) + 2)).toNatClampNeg) : Int32).toInt64 &&& 4294967295)) (xs ((nI (6 * k) + 3)).toNatClampNeg) _ _ h2) rfl rfl rfl (in_sid _ rfl) k_RL_71 rfl ⟨rfl, rfl⟩ ⟨Nat.le_of_ble_eq_true rfl, Nat.le_of_ble_eq_true rfl⟩ (cs_ok hk hL) _ rfl (Nat.le_of_ble_eq_true rfl) dL_law_625 (fun H locs hW => ?_)
  refine lv_icmp_eq (tgt := 1282) hx hb dL_law_628 (by decide) (fun _ => ?_) (fun c => absurd rfl c)
  exact kN E.ad _ H locs ls _ _ (by omega) (by omega) rfl rfl hI hW hl
set_option maxHeartbeats 4000000 in
set_option maxRecDepth 100000 in
theorem law_piece {p : Program} {e : Env} {s : State} {m : MethodId} {below : List Frame} {meth : Method} {c : Code} {l : Launch} {b L k : Nat} {xs : Nat → Int32} {Inv : St → Prop} {E : En} {S : St} {H : Heap} {locs : List Loc} {ls : Array Slot} (hs : ∀ (S : St) , Inv S → ∃ (r : Int32) (S1 : St) (S2 : St), X10_piece S  = some (r, S1) ∧ X11_piece S1  = some (r, S2) ∧ Inv S2) (hL : L ≤ 3072) (hk : 6 * k + 6 ≤ L) (hX : va_X b L xs s s.heap) (hbl : b < s.heap.size) (hbA : ¬ Ab E b) (C : Cx E p s m #[Value.ref b] c code 4 RL lw_tbl) (hI : Inv S) (hW : Ww E S s H locs) (hl : lv_has ls 4 [(0, .ref b), (1, .ref (E.ad 0)), (2, .ref (E.ad 60)), (3, .int (nI (6 * k)))])
    (kN : LwN p l e s m below meth c b k Inv E) : W p l e room_1 s m #[Value.ref b] below meth c H locs (63 + 9 * k) (3633 + 254 * k) (lw_Z below #[Value.ref b] s) (F0 m 633 ls []) := by
  obtain ⟨⟨hx, hb, hml, hown, hts⟩, hK, hT⟩ := id C
  obtain ⟨r, S1, S2, h1, h2, hI⟩ := hs S  hI
  refine lv_aload_n hx hb dL_law_633 rfl (lv_at hl 1 rfl) ?_
  refine g_callVi (ci := 10) (As := []) (rest := []) C UU_in hW hl.1 (c_X10_piece l E S  _ _ h1) rfl rfl rfl (in_sid _ rfl) k_RL_72 rfl ⟨rfl, rfl⟩ ⟨Nat.le_of_ble_eq_true rfl, Nat.le_of_ble_eq_true rfl⟩ (cs_ok hk hL) _ rfl (Nat.le_of_ble_eq_true rfl) dL_law_634 (fun H locs hW => ?_)
  refine lv_aload_n hx hb dL_law_637 rfl (lv_at hl 2 rfl) ?_
  refine g_callVi (ci := 11) (As := []) (rest := [.int r]) C UU_in hW hl.1 (c_X11_piece l E S1  _ _ h2) rfl rfl rfl (in_sid _ rfl) k_RL_76 rfl ⟨rfl, rfl⟩ ⟨Nat.le_of_ble_eq_true rfl, Nat.le_of_ble_eq_true rfl⟩ (cs_ok hk hL) _ rfl (Nat.le_of_ble_eq_true rfl) dL_law_638 (fun H locs hW => ?_)
  refine lv_icmp_eq (tgt := 1282) hx hb dL_law_641 (by decide) (fun _ => ?_) (fun c => absurd rfl c)
  exact kN E.ad _ H locs ls _ _ (by omega) (by omega) rfl rfl hI hW hl
set_option maxHeartbeats 4000000 in
set_option maxRecDepth 100000 in
theorem law_sound {p : Program} {e : Env} {s : State} {m : MethodId} {below : List Frame} {meth : Method} {c : Code} {l : Launch} {b L k : Nat} {xs : Nat → Int32} {Inv : St → Prop} {E : En} {S : St} {H : Heap} {locs : List Loc} {ls : Array Slot} (hs : ∀ (S : St) (a0 : Int32), Inv S → ∃ (r : Int32), X10_sound S a0 = some r ∧ X11_sound S a0 = some r ∧ Inv S) (hL : L ≤ 3072) (hk : 6 * k + 6 ≤ L) (hX : va_X b L xs s s.heap) (hbl : b < s.heap.size) (hbA : ¬ Ab E b) (C : Cx E p s m #[Value.ref b] c code 4 RL lw_tbl) (hI : Inv S) (hW : Ww E S s H locs) (hl : lv_has ls 4 [(0, .ref b), (1, .ref (E.ad 0)), (2, .ref (E.ad 60)), (3, .int (nI (6 * k)))])
    (kN : LwN p l e s m below meth c b k Inv E) : W p l e room_1 s m #[Value.ref b] below meth c H locs (63 + 9 * k) (3633 + 254 * k) (lw_Z below #[Value.ref b] s) (F0 m 646 ls []) := by
  obtain ⟨⟨hx, hb, hml, hown, hts⟩, hK, hT⟩ := id C
  obtain ⟨r, h1, h2, hI⟩ := hs S (xs ((nI (6 * k) + 1)).toNatClampNeg) hI
  refine lv_aload_n hx hb dL_law_646 rfl (lv_at hl 1 rfl) ?_
  refine lv_aload_n hx hb dL_law_647 rfl (lv_at hl 0 rfl) ?_
  refine lv_iload_n hx hb dL_law_648 rfl (lv_at hl 3 rfl) ?_
  refine lv_iconst (v := 1) hx hb dL_law_649 (by decide) ?_
  refine lv_iadd hx hb dL_law_650 ?_
  refine va_sld hx hb hX hbl hbA hW.2.2 (sc_in (j := 1) (by decide) hk hL) dL_law_651 ?_
  refine g_callVi (ci := 10) (As := [.int (xs ((nI (6 * k) + 1)).toNatClampNeg)]) (rest := []) C UU_in hW hl.1 (c_X10_sound l E S (xs ((nI (6 * k) + 1)).toNatClampNeg) _ h1) rfl rfl rfl (in_sid _ rfl) k_RL_77 rfl ⟨rfl, rfl⟩ ⟨Nat.le_of_ble_eq_true rfl, Nat.le_of_ble_eq_true rfl⟩ (cs_ok hk hL) _ rfl (Nat.le_of_ble_eq_true rfl) dL_law_652 (fun H locs hW => ?_)
  refine lv_aload_n hx hb dL_law_655 rfl (lv_at hl 2 rfl) ?_
  refine lv_aload_n hx hb dL_law_656 rfl (lv_at hl 0 rfl) ?_
  refine lv_iload_n hx hb dL_law_657 rfl (lv_at hl 3 rfl) ?_
  refine lv_iconst (v := 1) hx hb dL_law_658 (by decide) ?_
  refine lv_iadd hx hb dL_law_659 ?_
  refine va_sld hx hb hX hbl hbA hW.2.2 (sc_in (j := 1) (by decide) hk hL) dL_law_660 ?_
  refine g_callVi (ci := 11) (As := [.int (xs ((nI (6 * k) + 1)).toNatClampNeg)]) (rest := [.int r]) C UU_in hW hl.1 (c_X11_sound l E S (xs ((nI (6 * k) + 1)).toNatClampNeg) _ h2) rfl rfl rfl (in_sid _ rfl) k_RL_80 rfl ⟨rfl, rfl⟩ ⟨Nat.le_of_ble_eq_true rfl, Nat.le_of_ble_eq_true rfl⟩ (cs_ok hk hL) _ rfl (Nat.le_of_ble_eq_true rfl) dL_law_661 (fun H locs hW => ?_)
  refine lv_icmp_eq (tgt := 1282) hx hb dL_law_664 (by decide) (fun _ => ?_) (fun c => absurd rfl c)
  exact kN E.ad _ H locs ls _ _ (by omega) (by omega) rfl rfl hI hW hl
set_option maxHeartbeats 4000000 in
set_option maxRecDepth 100000 in
theorem law_fit {p : Program} {e : Env} {s : State} {m : MethodId} {below : List Frame} {meth : Method} {c : Code} {l : Launch} {b L k : Nat} {xs : Nat → Int32} {Inv : St → Prop} {E : En} {S : St} {H : Heap} {locs : List Loc} {ls : Array Slot} (hs : ∀ (S : St) (a0 : Int32), Inv S → ∃ (r : Int32) (S1 : St) (S2 : St), X10_fit S a0 = some (r, S1) ∧ X11_fit S1 a0 = some (r, S2) ∧ Inv S2) (hL : L ≤ 3072) (hk : 6 * k + 6 ≤ L) (hX : va_X b L xs s s.heap) (hbl : b < s.heap.size) (hbA : ¬ Ab E b) (C : Cx E p s m #[Value.ref b] c code 4 RL lw_tbl) (hI : Inv S) (hW : Ww E S s H locs) (hl : lv_has ls 4 [(0, .ref b), (1, .ref (E.ad 0)), (2, .ref (E.ad 60)), (3, .int (nI (6 * k)))])
    (kN : LwN p l e s m below meth c b k Inv E) : W p l e room_1 s m #[Value.ref b] below meth c H locs (63 + 9 * k) (3633 + 254 * k) (lw_Z below #[Value.ref b] s) (F0 m 669 ls []) := by
  obtain ⟨⟨hx, hb, hml, hown, hts⟩, hK, hT⟩ := id C
  obtain ⟨r, S1, S2, h1, h2, hI⟩ := hs S (xs ((nI (6 * k) + 1)).toNatClampNeg) hI
  refine lv_aload_n hx hb dL_law_669 rfl (lv_at hl 1 rfl) ?_
  refine lv_aload_n hx hb dL_law_670 rfl (lv_at hl 0 rfl) ?_
  refine lv_iload_n hx hb dL_law_671 rfl (lv_at hl 3 rfl) ?_
  refine lv_iconst (v := 1) hx hb dL_law_672 (by decide) ?_
  refine lv_iadd hx hb dL_law_673 ?_
  refine va_sld hx hb hX hbl hbA hW.2.2 (sc_in (j := 1) (by decide) hk hL) dL_law_674 ?_
  refine g_callVi (ci := 10) (As := [.int (xs ((nI (6 * k) + 1)).toNatClampNeg)]) (rest := []) C UU_in hW hl.1 (c_X10_fit l E S (xs ((nI (6 * k) + 1)).toNatClampNeg) _ _ h1) rfl rfl rfl (in_sid _ rfl) k_RL_81 rfl ⟨rfl, rfl⟩ ⟨Nat.le_of_ble_eq_true rfl, Nat.le_of_ble_eq_true rfl⟩ (cs_ok hk hL) _ rfl (Nat.le_of_ble_eq_true rfl) dL_law_675 (fun H locs hW => ?_)
  refine lv_aload_n hx hb dL_law_678 rfl (lv_at hl 2 rfl) ?_
  refine lv_aload_n hx hb dL_law_679 rfl (lv_at hl 0 rfl) ?_
  refine lv_iload_n hx hb dL_law_680 rfl (lv_at hl 3 rfl) ?_
  refine lv_iconst (v := 1) hx hb dL_law_681 (by decide) ?_
  refine lv_iadd hx hb dL_law_682 ?_
  refine va_sld hx hb hX hbl hbA hW.2.2 (sc_in (j := 1) (by decide) hk hL) dL_law_683 ?_
  refine g_callVi (ci := 11) (As := [.int (xs ((nI (6 * k) + 1)).toNatClampNeg)]) (rest := [.int r]) C UU_in hW hl.1 (c_X11_fit l E S1 (xs ((nI (6 * k) + 1)).toNatClampNeg) _ _ h2) rfl rfl rfl (in_sid _ rfl) k_RL_84 rfl ⟨rfl, rfl⟩ ⟨Nat.le_of_ble_eq_true rfl, Nat.le_of_ble_eq_true rfl⟩ (cs_ok hk hL) _ rfl (Nat.le_of_ble_eq_true rfl) dL_law_684 (fun H locs hW => ?_)
  refine lv_icmp_eq (tgt := 1282) hx hb dL_law_687 (by decide) (fun _ => ?_) (fun c => absurd rfl c)
  exact kN E.ad _ H locs ls _ _ (by omega) (by omega) rfl rfl hI hW hl
set_option maxHeartbeats 4000000 in
set_option maxRecDepth 100000 in
theorem law_clashes {p : Program} {e : Env} {s : State} {m : MethodId} {below : List Frame} {meth : Method} {c : Code} {l : Launch} {b L k : Nat} {xs : Nat → Int32} {Inv : St → Prop} {E : En} {S : St} {H : Heap} {locs : List Loc} {ls : Array Slot} (hs : ∀ (S : St) (a0 : Int32), Inv S → ∃ (r : Int32), X10_clashes S a0 = some r ∧ X11_clashes S a0 = some r ∧ Inv S) (hL : L ≤ 3072) (hk : 6 * k + 6 ≤ L) (hX : va_X b L xs s s.heap) (hbl : b < s.heap.size) (hbA : ¬ Ab E b) (C : Cx E p s m #[Value.ref b] c code 4 RL lw_tbl) (hI : Inv S) (hW : Ww E S s H locs) (hl : lv_has ls 4 [(0, .ref b), (1, .ref (E.ad 0)), (2, .ref (E.ad 60)), (3, .int (nI (6 * k)))])
    (kN : LwN p l e s m below meth c b k Inv E) : W p l e room_1 s m #[Value.ref b] below meth c H locs (63 + 9 * k) (3633 + 254 * k) (lw_Z below #[Value.ref b] s) (F0 m 692 ls []) := by
  obtain ⟨⟨hx, hb, hml, hown, hts⟩, hK, hT⟩ := id C
  obtain ⟨r, h1, h2, hI⟩ := hs S (xs ((nI (6 * k) + 1)).toNatClampNeg) hI
  refine lv_aload_n hx hb dL_law_692 rfl (lv_at hl 1 rfl) ?_
  refine lv_aload_n hx hb dL_law_693 rfl (lv_at hl 0 rfl) ?_
  refine lv_iload_n hx hb dL_law_694 rfl (lv_at hl 3 rfl) ?_
  refine lv_iconst (v := 1) hx hb dL_law_695 (by decide) ?_
  refine lv_iadd hx hb dL_law_696 ?_
  refine va_sld hx hb hX hbl hbA hW.2.2 (sc_in (j := 1) (by decide) hk hL) dL_law_697 ?_
  refine g_callVi (ci := 10) (As := [.int (xs ((nI (6 * k) + 1)).toNatClampNeg)]) (rest := []) C UU_in hW hl.1 (c_X10_clashes l E S (xs ((nI (6 * k) + 1)).toNatClampNeg) _ h1) rfl rfl rfl (in_sid _ rfl) k_RL_85 rfl ⟨rfl, rfl⟩ ⟨Nat.le_of_ble_eq_true rfl, Nat.le_of_ble_eq_true rfl⟩ (cs_ok hk hL) _ rfl (Nat.le_of_ble_eq_true rfl) dL_law_698 (fun H locs hW => ?_)
  refine lv_aload_n hx hb dL_law_701 rfl (lv_at hl 2 rfl) ?_
  refine lv_aload_n hx hb dL_law_702 rfl (lv_at hl 0 rfl) ?_
  refine lv_iload_n hx hb dL_law_703 rfl (lv_at hl 3 rfl) ?_
  refine lv_iconst (v := 1) hx hb dL_law_704 (by decide) ?_
  refine lv_iadd hx hb dL_law_705 ?_
  refine va_sld hx hb hX hbl hbA hW.2.2 (sc_in (j := 1) (by decide) hk hL) dL_law_706 ?_
  refine g_callVi (ci := 11) (As := [.int (xs ((nI (6 * k) + 1)).toNatClampNeg)]) (rest := [.int r]) C UU_in hW hl.1 (c_X11_clashes l E S (xs ((nI (6 * k) + 1)).toNatClampNeg) _ h2) rfl rfl rfl (in_sid _ rfl) k_RL_88 rfl ⟨rfl, rfl⟩ ⟨Nat.le_of_ble_eq_true rfl, Nat.le_of_ble_eq_true rfl⟩ (cs_ok hk hL) _ rfl (Nat.le_of_ble_eq_true rfl) dL_law_707 (fun H locs hW => ?_)
  refine lv_icmp_eq (tgt := 1282) hx hb dL_law_710 (by decide) (fun _ => ?_) (fun c => absurd rfl c)
  exact kN E.ad _ H locs ls _ _ (by omega) (by omega) rfl rfl hI hW hl
set_option maxHeartbeats 4000000 in
set_option maxRecDepth 100000 in
theorem law_canon {p : Program} {e : Env} {s : State} {m : MethodId} {below : List Frame} {meth : Method} {c : Code} {l : Launch} {b L k : Nat} {xs : Nat → Int32} {Inv : St → Prop} {E : En} {S : St} {H : Heap} {locs : List Loc} {ls : Array Slot} (hs : ∀ (S : St) (a0 : Int32), Inv S → ∃ (r : Int32), X10_canon S a0 = some r ∧ X11_canon S a0 = some r ∧ Inv S) (hL : L ≤ 3072) (hk : 6 * k + 6 ≤ L) (hX : va_X b L xs s s.heap) (hbl : b < s.heap.size) (hbA : ¬ Ab E b) (C : Cx E p s m #[Value.ref b] c code 4 RL lw_tbl) (hI : Inv S) (hW : Ww E S s H locs) (hl : lv_has ls 4 [(0, .ref b), (1, .ref (E.ad 0)), (2, .ref (E.ad 60)), (3, .int (nI (6 * k)))])
    (kN : LwN p l e s m below meth c b k Inv E) : W p l e room_1 s m #[Value.ref b] below meth c H locs (63 + 9 * k) (3633 + 254 * k) (lw_Z below #[Value.ref b] s) (F0 m 715 ls []) := by
  obtain ⟨⟨hx, hb, hml, hown, hts⟩, hK, hT⟩ := id C
  obtain ⟨r, h1, h2, hI⟩ := hs S (xs ((nI (6 * k) + 1)).toNatClampNeg) hI
  refine lv_aload_n hx hb dL_law_715 rfl (lv_at hl 1 rfl) ?_
  refine lv_aload_n hx hb dL_law_716 rfl (lv_at hl 0 rfl) ?_
  refine lv_iload_n hx hb dL_law_717 rfl (lv_at hl 3 rfl) ?_
  refine lv_iconst (v := 1) hx hb dL_law_718 (by decide) ?_
  refine lv_iadd hx hb dL_law_719 ?_
  refine va_sld hx hb hX hbl hbA hW.2.2 (sc_in (j := 1) (by decide) hk hL) dL_law_720 ?_
  refine g_callVi (ci := 10) (As := [.int (xs ((nI (6 * k) + 1)).toNatClampNeg)]) (rest := []) C UU_in hW hl.1 (c_X10_canon l E S (xs ((nI (6 * k) + 1)).toNatClampNeg) _ h1) rfl rfl rfl (in_sid _ rfl) k_RL_89 rfl ⟨rfl, rfl⟩ ⟨Nat.le_of_ble_eq_true rfl, Nat.le_of_ble_eq_true rfl⟩ (cs_ok hk hL) _ rfl (Nat.le_of_ble_eq_true rfl) dL_law_721 (fun H locs hW => ?_)
  refine lv_aload_n hx hb dL_law_724 rfl (lv_at hl 2 rfl) ?_
  refine lv_aload_n hx hb dL_law_725 rfl (lv_at hl 0 rfl) ?_
  refine lv_iload_n hx hb dL_law_726 rfl (lv_at hl 3 rfl) ?_
  refine lv_iconst (v := 1) hx hb dL_law_727 (by decide) ?_
  refine lv_iadd hx hb dL_law_728 ?_
  refine va_sld hx hb hX hbl hbA hW.2.2 (sc_in (j := 1) (by decide) hk hL) dL_law_729 ?_
  refine g_callVi (ci := 11) (As := [.int (xs ((nI (6 * k) + 1)).toNatClampNeg)]) (rest := [.int r]) C UU_in hW hl.1 (c_X11_canon l E S (xs ((nI (6 * k) + 1)).toNatClampNeg) _ h2) rfl rfl rfl (in_sid _ rfl) k_RL_92 rfl ⟨rfl, rfl⟩ ⟨Nat.le_of_ble_eq_true rfl, Nat.le_of_ble_eq_true rfl⟩ (cs_ok hk hL) _ rfl (Nat.le_of_ble_eq_true rfl) dL_law_730 (fun H locs hW => ?_)
  refine lv_icmp_eq (tgt := 1282) hx hb dL_law_733 (by decide) (fun _ => ?_) (fun c => absurd rfl c)
  exact kN E.ad _ H locs ls _ _ (by omega) (by omega) rfl rfl hI hW hl
set_option maxHeartbeats 4000000 in
set_option maxRecDepth 100000 in
theorem law_sea {p : Program} {e : Env} {s : State} {m : MethodId} {below : List Frame} {meth : Method} {c : Code} {l : Launch} {b L k : Nat} {xs : Nat → Int32} {Inv : St → Prop} {E : En} {S : St} {H : Heap} {locs : List Loc} {ls : Array Slot} (hs : ∀ (S : St) (a0 : Int32) (a1 : Int32), Inv S → ∃ (r : Int32), X10_sea S a0 a1 = some r ∧ X11_sea S a0 a1 = some r ∧ Inv S) (hL : L ≤ 3072) (hk : 6 * k + 6 ≤ L) (hX : va_X b L xs s s.heap) (hbl : b < s.heap.size) (hbA : ¬ Ab E b) (C : Cx E p s m #[Value.ref b] c code 4 RL lw_tbl) (hI : Inv S) (hW : Ww E S s H locs) (hl : lv_has ls 4 [(0, .ref b), (1, .ref (E.ad 0)), (2, .ref (E.ad 60)), (3, .int (nI (6 * k)))])
    (kN : LwN p l e s m below meth c b k Inv E) : W p l e room_1 s m #[Value.ref b] below meth c H locs (63 + 9 * k) (3633 + 254 * k) (lw_Z below #[Value.ref b] s) (F0 m 738 ls []) := by
  obtain ⟨⟨hx, hb, hml, hown, hts⟩, hK, hT⟩ := id C
  obtain ⟨r, h1, h2, hI⟩ := hs S (xs ((nI (6 * k) + 1)).toNatClampNeg) (xs ((nI (6 * k) + 2)).toNatClampNeg) hI
  refine lv_aload_n hx hb dL_law_738 rfl (lv_at hl 1 rfl) ?_
  refine lv_aload_n hx hb dL_law_739 rfl (lv_at hl 0 rfl) ?_
  refine lv_iload_n hx hb dL_law_740 rfl (lv_at hl 3 rfl) ?_
  refine lv_iconst (v := 1) hx hb dL_law_741 (by decide) ?_
  refine lv_iadd hx hb dL_law_742 ?_
  refine va_sld hx hb hX hbl hbA hW.2.2 (sc_in (j := 1) (by decide) hk hL) dL_law_743 ?_
  refine lv_aload_n hx hb dL_law_744 rfl (lv_at hl 0 rfl) ?_
  refine lv_iload_n hx hb dL_law_745 rfl (lv_at hl 3 rfl) ?_
  refine lv_iconst (v := 2) hx hb dL_law_746 (by decide) ?_
  refine lv_iadd hx hb dL_law_747 ?_
  refine va_sld hx hb hX hbl hbA hW.2.2 (sc_in (j := 2) (by decide) hk hL) dL_law_748 ?_
  refine g_callVi (ci := 10) (As := [.int (xs ((nI (6 * k) + 1)).toNatClampNeg), .int (xs ((nI (6 * k) + 2)).toNatClampNeg)]) (rest := []) C UU_in hW hl.1 (c_X10_sea l E S (xs ((nI (6 * k) + 1)).toNatClampNeg) (xs ((nI (6 * k) + 2)).toNatClampNeg) _ h1) rfl rfl rfl (in_sid _ rfl) k_RL_93 rfl ⟨rfl, rfl⟩ ⟨Nat.le_of_ble_eq_true rfl, Nat.le_of_ble_eq_true rfl⟩ (cs_ok hk hL) _ rfl (Nat.le_of_ble_eq_true rfl) dL_law_749 (fun H locs hW => ?_)
  refine lv_aload_n hx hb dL_law_752 rfl (lv_at hl 2 rfl) ?_
  refine lv_aload_n hx hb dL_law_753 rfl (lv_at hl 0 rfl) ?_
  refine lv_iload_n hx hb dL_law_754 rfl (lv_at hl 3 rfl) ?_
  refine lv_iconst (v := 1) hx hb dL_law_755 (by decide) ?_
  refine lv_iadd hx hb dL_law_756 ?_
  refine va_sld hx hb hX hbl hbA hW.2.2 (sc_in (j := 1) (by decide) hk hL) dL_law_757 ?_
  refine lv_aload_n hx hb dL_law_758 rfl (lv_at hl 0 rfl) ?_
  refine lv_iload_n hx hb dL_law_759 rfl (lv_at hl 3 rfl) ?_
  refine lv_iconst (v := 2) hx hb dL_law_760 (by decide) ?_
  refine lv_iadd hx hb dL_law_761 ?_
  refine va_sld hx hb hX hbl hbA hW.2.2 (sc_in (j := 2) (by decide) hk hL) dL_law_762 ?_
  refine g_callVi (ci := 11) (As := [.int (xs ((nI (6 * k) + 1)).toNatClampNeg), .int (xs ((nI (6 * k) + 2)).toNatClampNeg)]) (rest := [.int r]) C UU_in hW hl.1 (c_X11_sea l E S (xs ((nI (6 * k) + 1)).toNatClampNeg) (xs ((nI (6 * k) + 2)).toNatClampNeg) _ h2) rfl rfl rfl (in_sid _ rfl) k_RL_96 rfl ⟨rfl, rfl⟩ ⟨Nat.le_of_ble_eq_true rfl, Nat.le_of_ble_eq_true rfl⟩ (cs_ok hk hL) _ rfl (Nat.le_of_ble_eq_true rfl) dL_law_763 (fun H locs hW => ?_)
  refine lv_icmp_eq (tgt := 1282) hx hb dL_law_766 (by decide) (fun _ => ?_) (fun c => absurd rfl c)
  exact kN E.ad _ H locs ls _ _ (by omega) (by omega) rfl rfl hI hW hl
set_option maxHeartbeats 4000000 in
set_option maxRecDepth 100000 in
theorem law_lose {p : Program} {e : Env} {s : State} {m : MethodId} {below : List Frame} {meth : Method} {c : Code} {l : Launch} {b L k : Nat} {xs : Nat → Int32} {Inv : St → Prop} {E : En} {S : St} {H : Heap} {locs : List Loc} {ls : Array Slot} (hs : ∀ (S : St) (a0 : Int32) (a1 : Int32) (a2 : Int32) (a3 : Int32), (a3 = 0 ∨ a3 = 1) → Inv S → ∃ (r : Int32) (S1 : St) (S2 : St), X10_lose S a0 a1 a2 a3 = some (r, S1) ∧ X11_lose S1 a0 a1 a2 a3 = some (r, S2) ∧ Inv S2) (hL : L ≤ 3072) (hk : 6 * k + 6 ≤ L) (hX : va_X b L xs s s.heap) (hbl : b < s.heap.size) (hbA : ¬ Ab E b) (C : Cx E p s m #[Value.ref b] c code 4 RL lw_tbl) (hI : Inv S) (hW : Ww E S s H locs) (hl : lv_has ls 4 [(0, .ref b), (1, .ref (E.ad 0)), (2, .ref (E.ad 60)), (3, .int (nI (6 * k)))])
    (kN : LwN p l e s m below meth c b k Inv E) : W p l e room_1 s m #[Value.ref b] below meth c H locs (63 + 9 * k) (3633 + 254 * k) (lw_Z below #[Value.ref b] s) (F0 m 771 ls []) := by
  obtain ⟨⟨hx, hb, hml, hown, hts⟩, hK, hT⟩ := id C
  by_cases hz : xs (nI (6 * k) + 4).toNatClampNeg = 0
  · obtain ⟨r, S1, S2, h1, h2, hI⟩ := hs S (xs ((nI (6 * k) + 1)).toNatClampNeg) (xs ((nI (6 * k) + 2)).toNatClampNeg) (xs ((nI (6 * k) + 3)).toNatClampNeg) 0 (Or.inl rfl) hI
    refine lv_aload_n hx hb dL_law_771 rfl (lv_at hl 1 rfl) ?_
    refine lv_aload_n hx hb dL_law_772 rfl (lv_at hl 0 rfl) ?_
    refine lv_iload_n hx hb dL_law_773 rfl (lv_at hl 3 rfl) ?_
    refine lv_iconst (v := 1) hx hb dL_law_774 (by decide) ?_
    refine lv_iadd hx hb dL_law_775 ?_
    refine va_sld hx hb hX hbl hbA hW.2.2 (sc_in (j := 1) (by decide) hk hL) dL_law_776 ?_
    refine lv_aload_n hx hb dL_law_777 rfl (lv_at hl 0 rfl) ?_
    refine lv_iload_n hx hb dL_law_778 rfl (lv_at hl 3 rfl) ?_
    refine lv_iconst (v := 2) hx hb dL_law_779 (by decide) ?_
    refine lv_iadd hx hb dL_law_780 ?_
    refine va_sld hx hb hX hbl hbA hW.2.2 (sc_in (j := 2) (by decide) hk hL) dL_law_781 ?_
    refine lv_aload_n hx hb dL_law_782 rfl (lv_at hl 0 rfl) ?_
    refine lv_iload_n hx hb dL_law_783 rfl (lv_at hl 3 rfl) ?_
    refine lv_iconst (v := 3) hx hb dL_law_784 (by decide) ?_
    refine lv_iadd hx hb dL_law_785 ?_
    refine va_sld hx hb hX hbl hbA hW.2.2 (sc_in (j := 3) (by decide) hk hL) dL_law_786 ?_
    refine lv_aload_n hx hb dL_law_787 rfl (lv_at hl 0 rfl) ?_
    refine lv_iload_n hx hb dL_law_788 rfl (lv_at hl 3 rfl) ?_
    refine lv_iconst (v := 4) hx hb dL_law_789 (by decide) ?_
    refine lv_iadd hx hb dL_law_790 ?_
    refine va_sld hx hb hX hbl hbA hW.2.2 (sc_in (j := 4) (by decide) hk hL) dL_law_791 ?_
    refine lv_if_eq (tgt := 799) hx hb dL_law_792 (by decide) (fun _ => ?_) (fun c => absurd hz c)
    refine lv_iconst (v := 0) hx hb dL_law_799 (by decide) ?_
    refine g_callVi (ci := 10) (As := [.int (xs ((nI (6 * k) + 1)).toNatClampNeg), .int (xs ((nI (6 * k) + 2)).toNatClampNeg), .int (xs ((nI (6 * k) + 3)).toNatClampNeg), .int 0]) (rest := []) C UU_in hW hl.1 (c_X10_lose l E S (xs ((nI (6 * k) + 1)).toNatClampNeg) (xs ((nI (6 * k) + 2)).toNatClampNeg) (xs ((nI (6 * k) + 3)).toNatClampNeg) 0 _ _ h1) rfl rfl rfl (in_sid _ rfl) k_RL_97 rfl ⟨rfl, rfl⟩ ⟨Nat.le_of_ble_eq_true rfl, Nat.le_of_ble_eq_true rfl⟩ (cs_ok hk hL) _ rfl (Nat.le_of_ble_eq_true rfl) dL_law_800 (fun H locs hW => ?_)
    refine lv_aload_n hx hb dL_law_803 rfl (lv_at hl 2 rfl) ?_
    refine lv_aload_n hx hb dL_law_804 rfl (lv_at hl 0 rfl) ?_
    refine lv_iload_n hx hb dL_law_805 rfl (lv_at hl 3 rfl) ?_
    refine lv_iconst (v := 1) hx hb dL_law_806 (by decide) ?_
    refine lv_iadd hx hb dL_law_807 ?_
    refine va_sld hx hb hX hbl hbA hW.2.2 (sc_in (j := 1) (by decide) hk hL) dL_law_808 ?_
    refine lv_aload_n hx hb dL_law_809 rfl (lv_at hl 0 rfl) ?_
    refine lv_iload_n hx hb dL_law_810 rfl (lv_at hl 3 rfl) ?_
    refine lv_iconst (v := 2) hx hb dL_law_811 (by decide) ?_
    refine lv_iadd hx hb dL_law_812 ?_
    refine va_sld hx hb hX hbl hbA hW.2.2 (sc_in (j := 2) (by decide) hk hL) dL_law_813 ?_
    refine lv_aload_n hx hb dL_law_814 rfl (lv_at hl 0 rfl) ?_
    refine lv_iload_n hx hb dL_law_815 rfl (lv_at hl 3 rfl) ?_
    refine lv_iconst (v := 3) hx hb dL_law_816 (by decide) ?_
    refine lv_iadd hx hb dL_law_817 ?_
    refine va_sld hx hb hX hbl hbA hW.2.2 (sc_in (j := 3) (by decide) hk hL) dL_law_818 ?_
    refine lv_aload_n hx hb dL_law_819 rfl (lv_at hl 0 rfl) ?_
    refine lv_iload_n hx hb dL_law_820 rfl (lv_at hl 3 rfl) ?_
    refine lv_iconst (v := 4) hx hb dL_law_821 (by decide) ?_
    refine lv_iadd hx hb dL_law_822 ?_
    refine va_sld hx hb hX hbl hbA hW.2.2 (sc_in (j := 4) (by decide) hk hL) dL_law_823 ?_
    refine lv_if_eq (tgt := 831) hx hb dL_law_824 (by decide) (fun _ => ?_) (fun c => absurd hz c)
    refine lv_iconst (v := 0) hx hb dL_law_831 (by decide) ?_
    refine g_callVi (ci := 11) (As := [.int (xs ((nI (6 * k) + 1)).toNatClampNeg), .int (xs ((nI (6 * k) + 2)).toNatClampNeg), .int (xs ((nI (6 * k) + 3)).toNatClampNeg), .int 0]) (rest := [.int r]) C UU_in hW hl.1 (c_X11_lose l E S1 (xs ((nI (6 * k) + 1)).toNatClampNeg) (xs ((nI (6 * k) + 2)).toNatClampNeg) (xs ((nI (6 * k) + 3)).toNatClampNeg) 0 _ _ h2) rfl rfl rfl (in_sid _ rfl) k_RL_101 rfl ⟨rfl, rfl⟩ ⟨Nat.le_of_ble_eq_true rfl, Nat.le_of_ble_eq_true rfl⟩ (cs_ok hk hL) _ rfl (Nat.le_of_ble_eq_true rfl) dL_law_832 (fun H locs hW => ?_)
    refine lv_icmp_eq (tgt := 1282) hx hb dL_law_835 (by decide) (fun _ => ?_) (fun c => absurd rfl c)
    exact kN E.ad _ H locs ls _ _ (by omega) (by omega) rfl rfl hI hW hl
  · obtain ⟨r, S1, S2, h1, h2, hI⟩ := hs S (xs ((nI (6 * k) + 1)).toNatClampNeg) (xs ((nI (6 * k) + 2)).toNatClampNeg) (xs ((nI (6 * k) + 3)).toNatClampNeg) 1 (Or.inr rfl) hI
    refine lv_aload_n hx hb dL_law_771 rfl (lv_at hl 1 rfl) ?_
    refine lv_aload_n hx hb dL_law_772 rfl (lv_at hl 0 rfl) ?_
    refine lv_iload_n hx hb dL_law_773 rfl (lv_at hl 3 rfl) ?_
    refine lv_iconst (v := 1) hx hb dL_law_774 (by decide) ?_
    refine lv_iadd hx hb dL_law_775 ?_
    refine va_sld hx hb hX hbl hbA hW.2.2 (sc_in (j := 1) (by decide) hk hL) dL_law_776 ?_
    refine lv_aload_n hx hb dL_law_777 rfl (lv_at hl 0 rfl) ?_
    refine lv_iload_n hx hb dL_law_778 rfl (lv_at hl 3 rfl) ?_
    refine lv_iconst (v := 2) hx hb dL_law_779 (by decide) ?_
    refine lv_iadd hx hb dL_law_780 ?_
    refine va_sld hx hb hX hbl hbA hW.2.2 (sc_in (j := 2) (by decide) hk hL) dL_law_781 ?_
    refine lv_aload_n hx hb dL_law_782 rfl (lv_at hl 0 rfl) ?_
    refine lv_iload_n hx hb dL_law_783 rfl (lv_at hl 3 rfl) ?_
    refine lv_iconst (v := 3) hx hb dL_law_784 (by decide) ?_
    refine lv_iadd hx hb dL_law_785 ?_
    refine va_sld hx hb hX hbl hbA hW.2.2 (sc_in (j := 3) (by decide) hk hL) dL_law_786 ?_
    refine lv_aload_n hx hb dL_law_787 rfl (lv_at hl 0 rfl) ?_
    refine lv_iload_n hx hb dL_law_788 rfl (lv_at hl 3 rfl) ?_
    refine lv_iconst (v := 4) hx hb dL_law_789 (by decide) ?_
    refine lv_iadd hx hb dL_law_790 ?_
    refine va_sld hx hb hX hbl hbA hW.2.2 (sc_in (j := 4) (by decide) hk hL) dL_law_791 ?_
    refine lv_if_eq (tgt := 799) hx hb dL_law_792 (by decide) (fun c => absurd c hz) (fun _ => ?_)
    refine lv_iconst (v := 1) hx hb dL_law_795 (by decide) ?_
    refine lv_goto (tgt := 800) hx hb dL_law_796 (by decide) ?_
    refine g_callVi (ci := 10) (As := [.int (xs ((nI (6 * k) + 1)).toNatClampNeg), .int (xs ((nI (6 * k) + 2)).toNatClampNeg), .int (xs ((nI (6 * k) + 3)).toNatClampNeg), .int 1]) (rest := []) C UU_in hW hl.1 (c_X10_lose l E S (xs ((nI (6 * k) + 1)).toNatClampNeg) (xs ((nI (6 * k) + 2)).toNatClampNeg) (xs ((nI (6 * k) + 3)).toNatClampNeg) 1 _ _ h1) rfl rfl rfl (in_sid _ rfl) k_RL_97 rfl ⟨rfl, rfl⟩ ⟨Nat.le_of_ble_eq_true rfl, Nat.le_of_ble_eq_true rfl⟩ (cs_ok hk hL) _ rfl (Nat.le_of_ble_eq_true rfl) dL_law_800 (fun H locs hW => ?_)
    refine lv_aload_n hx hb dL_law_803 rfl (lv_at hl 2 rfl) ?_
    refine lv_aload_n hx hb dL_law_804 rfl (lv_at hl 0 rfl) ?_
    refine lv_iload_n hx hb dL_law_805 rfl (lv_at hl 3 rfl) ?_
    refine lv_iconst (v := 1) hx hb dL_law_806 (by decide) ?_
    refine lv_iadd hx hb dL_law_807 ?_
    refine va_sld hx hb hX hbl hbA hW.2.2 (sc_in (j := 1) (by decide) hk hL) dL_law_808 ?_
    refine lv_aload_n hx hb dL_law_809 rfl (lv_at hl 0 rfl) ?_
    refine lv_iload_n hx hb dL_law_810 rfl (lv_at hl 3 rfl) ?_
    refine lv_iconst (v := 2) hx hb dL_law_811 (by decide) ?_
    refine lv_iadd hx hb dL_law_812 ?_
    refine va_sld hx hb hX hbl hbA hW.2.2 (sc_in (j := 2) (by decide) hk hL) dL_law_813 ?_
    refine lv_aload_n hx hb dL_law_814 rfl (lv_at hl 0 rfl) ?_
    refine lv_iload_n hx hb dL_law_815 rfl (lv_at hl 3 rfl) ?_
    refine lv_iconst (v := 3) hx hb dL_law_816 (by decide) ?_
    refine lv_iadd hx hb dL_law_817 ?_
    refine va_sld hx hb hX hbl hbA hW.2.2 (sc_in (j := 3) (by decide) hk hL) dL_law_818 ?_
    refine lv_aload_n hx hb dL_law_819 rfl (lv_at hl 0 rfl) ?_
    refine lv_iload_n hx hb dL_law_820 rfl (lv_at hl 3 rfl) ?_
    refine lv_iconst (v := 4) hx hb dL_law_821 (by decide) ?_
    refine lv_iadd hx hb dL_law_822 ?_
    refine va_sld hx hb hX hbl hbA hW.2.2 (sc_in (j := 4) (by decide) hk hL) dL_law_823 ?_
    refine lv_if_eq (tgt := 831) hx hb dL_law_824 (by decide) (fun c => absurd c hz) (fun _ => ?_)
    refine lv_iconst (v := 1) hx hb dL_law_827 (by decide) ?_
    refine lv_goto (tgt := 832) hx hb dL_law_828 (by decide) ?_
    refine g_callVi (ci := 11) (As := [.int (xs ((nI (6 * k) + 1)).toNatClampNeg), .int (xs ((nI (6 * k) + 2)).toNatClampNeg), .int (xs ((nI (6 * k) + 3)).toNatClampNeg), .int 1]) (rest := [.int r]) C UU_in hW hl.1 (c_X11_lose l E S1 (xs ((nI (6 * k) + 1)).toNatClampNeg) (xs ((nI (6 * k) + 2)).toNatClampNeg) (xs ((nI (6 * k) + 3)).toNatClampNeg) 1 _ _ h2) rfl rfl rfl (in_sid _ rfl) k_RL_101 rfl ⟨rfl, rfl⟩ ⟨Nat.le_of_ble_eq_true rfl, Nat.le_of_ble_eq_true rfl⟩ (cs_ok hk hL) _ rfl (Nat.le_of_ble_eq_true rfl) dL_law_832 (fun H locs hW => ?_)
    refine lv_icmp_eq (tgt := 1282) hx hb dL_law_835 (by decide) (fun _ => ?_) (fun c => absurd rfl c)
    exact kN E.ad _ H locs ls _ _ (by omega) (by omega) rfl rfl hI hW hl
set_option maxHeartbeats 4000000 in
set_option maxRecDepth 100000 in
theorem law_goes {p : Program} {e : Env} {s : State} {m : MethodId} {below : List Frame} {meth : Method} {c : Code} {l : Launch} {b L k : Nat} {xs : Nat → Int32} {Inv : St → Prop} {E : En} {S : St} {H : Heap} {locs : List Loc} {ls : Array Slot} (hs : ∀ (S : St) (a0 : Int32) (a1 : Int32), Inv S → ∃ (r : Int32) (S1 : St) (S2 : St), X10_goes S a0 a1 = some (r, S1) ∧ X11_goes S1 a0 a1 = some (r, S2) ∧ Inv S2) (hL : L ≤ 3072) (hk : 6 * k + 6 ≤ L) (hX : va_X b L xs s s.heap) (hbl : b < s.heap.size) (hbA : ¬ Ab E b) (C : Cx E p s m #[Value.ref b] c code 4 RL lw_tbl) (hI : Inv S) (hW : Ww E S s H locs) (hl : lv_has ls 4 [(0, .ref b), (1, .ref (E.ad 0)), (2, .ref (E.ad 60)), (3, .int (nI (6 * k)))])
    (kN : LwN p l e s m below meth c b k Inv E) : W p l e room_1 s m #[Value.ref b] below meth c H locs (63 + 9 * k) (3633 + 254 * k) (lw_Z below #[Value.ref b] s) (F0 m 840 ls []) := by
  obtain ⟨⟨hx, hb, hml, hown, hts⟩, hK, hT⟩ := id C
  obtain ⟨r, S1, S2, h1, h2, hI⟩ := hs S (xs ((nI (6 * k) + 1)).toNatClampNeg) (xs ((nI (6 * k) + 2)).toNatClampNeg) hI
  refine lv_aload_n hx hb dL_law_840 rfl (lv_at hl 1 rfl) ?_
  refine lv_aload_n hx hb dL_law_841 rfl (lv_at hl 0 rfl) ?_
  refine lv_iload_n hx hb dL_law_842 rfl (lv_at hl 3 rfl) ?_
  refine lv_iconst (v := 1) hx hb dL_law_843 (by decide) ?_
  refine lv_iadd hx hb dL_law_844 ?_
  refine va_sld hx hb hX hbl hbA hW.2.2 (sc_in (j := 1) (by decide) hk hL) dL_law_845 ?_
  refine lv_aload_n hx hb dL_law_846 rfl (lv_at hl 0 rfl) ?_
  refine lv_iload_n hx hb dL_law_847 rfl (lv_at hl 3 rfl) ?_
  refine lv_iconst (v := 2) hx hb dL_law_848 (by decide) ?_
  refine lv_iadd hx hb dL_law_849 ?_
  refine va_sld hx hb hX hbl hbA hW.2.2 (sc_in (j := 2) (by decide) hk hL) dL_law_850 ?_
  refine g_callVi (ci := 10) (As := [.int (xs ((nI (6 * k) + 1)).toNatClampNeg), .int (xs ((nI (6 * k) + 2)).toNatClampNeg)]) (rest := []) C UU_in hW hl.1 (c_X10_goes l E S (xs ((nI (6 * k) + 1)).toNatClampNeg) (xs ((nI (6 * k) + 2)).toNatClampNeg) _ _ h1) rfl rfl rfl (in_sid _ rfl) k_RL_102 rfl ⟨rfl, rfl⟩ ⟨Nat.le_of_ble_eq_true rfl, Nat.le_of_ble_eq_true rfl⟩ (cs_ok hk hL) _ rfl (Nat.le_of_ble_eq_true rfl) dL_law_851 (fun H locs hW => ?_)
  refine lv_aload_n hx hb dL_law_854 rfl (lv_at hl 2 rfl) ?_
  refine lv_aload_n hx hb dL_law_855 rfl (lv_at hl 0 rfl) ?_
  refine lv_iload_n hx hb dL_law_856 rfl (lv_at hl 3 rfl) ?_
  refine lv_iconst (v := 1) hx hb dL_law_857 (by decide) ?_
  refine lv_iadd hx hb dL_law_858 ?_
  refine va_sld hx hb hX hbl hbA hW.2.2 (sc_in (j := 1) (by decide) hk hL) dL_law_859 ?_
  refine lv_aload_n hx hb dL_law_860 rfl (lv_at hl 0 rfl) ?_
  refine lv_iload_n hx hb dL_law_861 rfl (lv_at hl 3 rfl) ?_
  refine lv_iconst (v := 2) hx hb dL_law_862 (by decide) ?_
  refine lv_iadd hx hb dL_law_863 ?_
  refine va_sld hx hb hX hbl hbA hW.2.2 (sc_in (j := 2) (by decide) hk hL) dL_law_864 ?_
  refine g_callVi (ci := 11) (As := [.int (xs ((nI (6 * k) + 1)).toNatClampNeg), .int (xs ((nI (6 * k) + 2)).toNatClampNeg)]) (rest := [.int r]) C UU_in hW hl.1 (c_X11_goes l E S1 (xs ((nI (6 * k) + 1)).toNatClampNeg) (xs ((nI (6 * k) + 2)).toNatClampNeg) _ _ h2) rfl rfl rfl (in_sid _ rfl) k_RL_105 rfl ⟨rfl, rfl⟩ ⟨Nat.le_of_ble_eq_true rfl, Nat.le_of_ble_eq_true rfl⟩ (cs_ok hk hL) _ rfl (Nat.le_of_ble_eq_true rfl) dL_law_865 (fun H locs hW => ?_)
  refine lv_icmp_eq (tgt := 1282) hx hb dL_law_868 (by decide) (fun _ => ?_) (fun c => absurd rfl c)
  exact kN E.ad _ H locs ls _ _ (by omega) (by omega) rfl rfl hI hW hl
set_option maxHeartbeats 4000000 in
set_option maxRecDepth 100000 in
theorem law_knows {p : Program} {e : Env} {s : State} {m : MethodId} {below : List Frame} {meth : Method} {c : Code} {l : Launch} {b L k : Nat} {xs : Nat → Int32} {Inv : St → Prop} {E : En} {S : St} {H : Heap} {locs : List Loc} {ls : Array Slot} (hs : ∀ (S : St) (a0 : Int32) (a1 : Int32), Inv S → ∃ (r : Int32) (S1 : St) (S2 : St), X10_knows S a0 a1 = some (r, S1) ∧ X11_knows S1 a0 a1 = some (r, S2) ∧ Inv S2) (hL : L ≤ 3072) (hk : 6 * k + 6 ≤ L) (hX : va_X b L xs s s.heap) (hbl : b < s.heap.size) (hbA : ¬ Ab E b) (C : Cx E p s m #[Value.ref b] c code 4 RL lw_tbl) (hI : Inv S) (hW : Ww E S s H locs) (hl : lv_has ls 4 [(0, .ref b), (1, .ref (E.ad 0)), (2, .ref (E.ad 60)), (3, .int (nI (6 * k)))])
    (kN : LwN p l e s m below meth c b k Inv E) : W p l e room_1 s m #[Value.ref b] below meth c H locs (63 + 9 * k) (3633 + 254 * k) (lw_Z below #[Value.ref b] s) (F0 m 873 ls []) := by
  obtain ⟨⟨hx, hb, hml, hown, hts⟩, hK, hT⟩ := id C
  obtain ⟨r, S1, S2, h1, h2, hI⟩ := hs S (xs ((nI (6 * k) + 1)).toNatClampNeg) (xs ((nI (6 * k) + 2)).toNatClampNeg) hI
  refine lv_aload_n hx hb dL_law_873 rfl (lv_at hl 1 rfl) ?_
  refine lv_aload_n hx hb dL_law_874 rfl (lv_at hl 0 rfl) ?_
  refine lv_iload_n hx hb dL_law_875 rfl (lv_at hl 3 rfl) ?_
  refine lv_iconst (v := 1) hx hb dL_law_876 (by decide) ?_
  refine lv_iadd hx hb dL_law_877 ?_
  refine va_sld hx hb hX hbl hbA hW.2.2 (sc_in (j := 1) (by decide) hk hL) dL_law_878 ?_
  refine lv_aload_n hx hb dL_law_879 rfl (lv_at hl 0 rfl) ?_
  refine lv_iload_n hx hb dL_law_880 rfl (lv_at hl 3 rfl) ?_
  refine lv_iconst (v := 2) hx hb dL_law_881 (by decide) ?_
  refine lv_iadd hx hb dL_law_882 ?_
  refine va_sld hx hb hX hbl hbA hW.2.2 (sc_in (j := 2) (by decide) hk hL) dL_law_883 ?_
  refine g_callVi (ci := 10) (As := [.int (xs ((nI (6 * k) + 1)).toNatClampNeg), .int (xs ((nI (6 * k) + 2)).toNatClampNeg)]) (rest := []) C UU_in hW hl.1 (c_X10_knows l E S (xs ((nI (6 * k) + 1)).toNatClampNeg) (xs ((nI (6 * k) + 2)).toNatClampNeg) _ _ h1) rfl rfl rfl (in_sid _ rfl) k_RL_106 rfl ⟨rfl, rfl⟩ ⟨Nat.le_of_ble_eq_true rfl, Nat.le_of_ble_eq_true rfl⟩ (cs_ok hk hL) _ rfl (Nat.le_of_ble_eq_true rfl) dL_law_884 (fun H locs hW => ?_)
  refine lv_aload_n hx hb dL_law_887 rfl (lv_at hl 2 rfl) ?_
  refine lv_aload_n hx hb dL_law_888 rfl (lv_at hl 0 rfl) ?_
  refine lv_iload_n hx hb dL_law_889 rfl (lv_at hl 3 rfl) ?_
  refine lv_iconst (v := 1) hx hb dL_law_890 (by decide) ?_
  refine lv_iadd hx hb dL_law_891 ?_
  refine va_sld hx hb hX hbl hbA hW.2.2 (sc_in (j := 1) (by decide) hk hL) dL_law_892 ?_
  refine lv_aload_n hx hb dL_law_893 rfl (lv_at hl 0 rfl) ?_
  refine lv_iload_n hx hb dL_law_894 rfl (lv_at hl 3 rfl) ?_
  refine lv_iconst (v := 2) hx hb dL_law_895 (by decide) ?_
  refine lv_iadd hx hb dL_law_896 ?_
  refine va_sld hx hb hX hbl hbA hW.2.2 (sc_in (j := 2) (by decide) hk hL) dL_law_897 ?_
  refine g_callVi (ci := 11) (As := [.int (xs ((nI (6 * k) + 1)).toNatClampNeg), .int (xs ((nI (6 * k) + 2)).toNatClampNeg)]) (rest := [.int r]) C UU_in hW hl.1 (c_X11_knows l E S1 (xs ((nI (6 * k) + 1)).toNatClampNeg) (xs ((nI (6 * k) + 2)).toNatClampNeg) _ _ h2) rfl rfl rfl (in_sid _ rfl) k_RL_109 rfl ⟨rfl, rfl⟩ ⟨Nat.le_of_ble_eq_true rfl, Nat.le_of_ble_eq_true rfl⟩ (cs_ok hk hL) _ rfl (Nat.le_of_ble_eq_true rfl) dL_law_898 (fun H locs hW => ?_)
  refine lv_icmp_eq (tgt := 1282) hx hb dL_law_901 (by decide) (fun _ => ?_) (fun c => absurd rfl c)
  exact kN E.ad _ H locs ls _ _ (by omega) (by omega) rfl rfl hI hW hl
set_option maxHeartbeats 4000000 in
set_option maxRecDepth 100000 in
theorem law_loss {p : Program} {e : Env} {s : State} {m : MethodId} {below : List Frame} {meth : Method} {c : Code} {l : Launch} {b L k : Nat} {xs : Nat → Int32} {Inv : St → Prop} {E : En} {S : St} {H : Heap} {locs : List Loc} {ls : Array Slot} (hs : ∀ (S : St) (a0 : Int64), Inv S → ∃ (r : Int32) (S1 : St) (S2 : St), X10_loss S a0 = some (r, S1) ∧ X11_loss S1 a0 = some (r, S2) ∧ Inv S2) (hL : L ≤ 3072) (hk : 6 * k + 6 ≤ L) (hX : va_X b L xs s s.heap) (hbl : b < s.heap.size) (hbA : ¬ Ab E b) (C : Cx E p s m #[Value.ref b] c code 4 RL lw_tbl) (hI : Inv S) (hW : Ww E S s H locs) (hl : lv_has ls 4 [(0, .ref b), (1, .ref (E.ad 0)), (2, .ref (E.ad 60)), (3, .int (nI (6 * k)))])
    (kN : LwN p l e s m below meth c b k Inv E) : W p l e room_1 s m #[Value.ref b] below meth c H locs (63 + 9 * k) (3633 + 254 * k) (lw_Z below #[Value.ref b] s) (F0 m 906 ls []) := by
  obtain ⟨⟨hx, hb, hml, hown, hts⟩, hK, hT⟩ := id C
  obtain ⟨r, S1, S2, h1, h2, hI⟩ := hs S ((((xs ((nI (6 * k) + 1)).toNatClampNeg) : Int32).toInt64 <<< ((32 : Int32).toInt64 &&& 63)) ||| (((xs ((nI (6 * k) + 2)).toNatClampNeg) : Int32).toInt64 &&& 4294967295)) hI
  refine lv_aload_n hx hb dL_law_906 rfl (lv_at hl 1 rfl) ?_
  refine lv_aload_n hx hb dL_law_907 rfl (lv_at hl 0 rfl) ?_
  refine lv_iload_n hx hb dL_law_908 rfl (lv_at hl 3 rfl) ?_
  refine lv_iconst (v := 1) hx hb dL_law_909 (by decide) ?_
  refine lv_iadd hx hb dL_law_910 ?_
  refine va_sld hx hb hX hbl hbA hW.2.2 (sc_in (j := 1) (by decide) hk hL) dL_law_911 ?_
  refine lv_i2l (v := ((xs ((nI (6 * k) + 1)).toNatClampNeg) : Int32).toInt64) hx hb dL_law_912 rfl ?_
  refine lv_bipush (v := 32) hx hb dL_law_913 (by decide) ?_
  refine lv_lshl (v := (((xs ((nI (6 * k) + 1)).toNatClampNeg) : Int32).toInt64 <<< ((32 : Int32).toInt64 &&& 63))) hx hb dL_law_915 rfl ?_
  refine lv_aload_n hx hb dL_law_916 rfl (lv_at hl 0 rfl) ?_
  refine lv_iload_n hx hb dL_law_917 rfl (lv_at hl 3 rfl) ?_
  refine lv_iconst (v := 2) hx hb dL_law_918 (by decide) ?_
  refine lv_iadd hx hb dL_law_919 ?_
  refine va_sld hx hb hX hbl hbA hW.2.2 (sc_in (j := 2) (by decide) hk hL) dL_law_920 ?_
  refine lv_i2l (v := ((xs ((nI (6 * k) + 2)).toNatClampNeg) : Int32).toInt64) hx hb dL_law_921 rfl ?_
  refine lv_ldc2 hx hb hown (hts _ (UU_in _ q_RL_65)) dL_law_922 ?_
  refine lv_land hx hb dL_law_925 ?_
  refine lv_lor hx hb dL_law_926 ?_
  refine g_callVi (ci := 10) (As := [.long ((((xs ((nI (6 * k) + 1)).toNatClampNeg) : Int32).toInt64 <<< ((32 : Int32).toInt64 &&& 63)) ||| (((xs ((nI (6 * k) + 2)).toNatClampNeg) : Int32).toInt64 &&& 4294967295))]) (rest := []) C UU_in hW hl.1 (c_X10_loss l E S ((((xs ((nI (6 * k) + 1)).toNatClampNeg) : Int32).toInt64 <<< ((32 : Int32).toInt64 &&& 63)) ||| (((xs ((nI (6 * k) + 2)).toNatClampNeg) : Int32).toInt64 &&& 4294967295)) _ _ h1) rfl rfl rfl (in_sid _ rfl) k_RL_110 rfl ⟨rfl, rfl⟩ ⟨Nat.le_of_ble_eq_true rfl, Nat.le_of_ble_eq_true rfl⟩ (cs_ok hk hL) _ rfl (Nat.le_of_ble_eq_true rfl) dL_law_927 (fun H locs hW => ?_)
  refine lv_aload_n hx hb dL_law_930 rfl (lv_at hl 2 rfl) ?_
  refine lv_aload_n hx hb dL_law_931 rfl (lv_at hl 0 rfl) ?_
  refine lv_iload_n hx hb dL_law_932 rfl (lv_at hl 3 rfl) ?_
  refine lv_iconst (v := 1) hx hb dL_law_933 (by decide) ?_
  refine lv_iadd hx hb dL_law_934 ?_
  refine va_sld hx hb hX hbl hbA hW.2.2 (sc_in (j := 1) (by decide) hk hL) dL_law_935 ?_
  refine lv_i2l (v := ((xs ((nI (6 * k) + 1)).toNatClampNeg) : Int32).toInt64) hx hb dL_law_936 rfl ?_
  refine lv_bipush (v := 32) hx hb dL_law_937 (by decide) ?_
  refine lv_lshl (v := (((xs ((nI (6 * k) + 1)).toNatClampNeg) : Int32).toInt64 <<< ((32 : Int32).toInt64 &&& 63))) hx hb dL_law_939 rfl ?_
  refine lv_aload_n hx hb dL_law_940 rfl (lv_at hl 0 rfl) ?_
  refine lv_iload_n hx hb dL_law_941 rfl (lv_at hl 3 rfl) ?_
  refine lv_iconst (v := 2) hx hb dL_law_942 (by decide) ?_
  refine lv_iadd hx hb dL_law_943 ?_
  refine va_sld hx hb hX hbl hbA hW.2.2 (sc_in (j := 2) (by decide) hk hL) dL_law_944 ?_
  refine lv_i2l (v := ((xs ((nI (6 * k) + 2)).toNatClampNeg) : Int32).toInt64) hx hb dL_law_945 rfl ?_
  refine lv_ldc2 hx hb hown (hts _ (UU_in _ q_RL_65)) dL_law_946 ?_
  refine lv_land hx hb dL_law_949 ?_
  refine lv_lor hx hb dL_law_950 ?_
  refine g_callVi (ci := 11) (As := [.long ((((xs ((nI (6 * k) + 1)).toNatClampNeg) : Int32).toInt64 <<< ((32 : Int32).toInt64 &&& 63)) ||| (((xs ((nI (6 * k) + 2)).toNatClampNeg) : Int32).toInt64 &&& 4294967295))]) (rest := [.int r]) C UU_in hW hl.1 (c_X11_loss l E S1 ((((xs ((nI (6 * k) + 1)).toNatClampNeg) : Int32).toInt64 <<< ((32 : Int32).toInt64 &&& 63)) ||| (((xs ((nI (6 * k) + 2)).toNatClampNeg) : Int32).toInt64 &&& 4294967295)) _ _ h2) rfl rfl rfl (in_sid _ rfl) k_RL_114 rfl ⟨rfl, rfl⟩ ⟨Nat.le_of_ble_eq_true rfl, Nat.le_of_ble_eq_true rfl⟩ (cs_ok hk hL) _ rfl (Nat.le_of_ble_eq_true rfl) dL_law_951 (fun H locs hW => ?_)
  refine lv_icmp_eq (tgt := 1282) hx hb dL_law_954 (by decide) (fun _ => ?_) (fun c => absurd rfl c)
  exact kN E.ad _ H locs ls _ _ (by omega) (by omega) rfl rfl hI hW hl
set_option maxHeartbeats 4000000 in
set_option maxRecDepth 100000 in
theorem law_lost {p : Program} {e : Env} {s : State} {m : MethodId} {below : List Frame} {meth : Method} {c : Code} {l : Launch} {b L k : Nat} {xs : Nat → Int32} {Inv : St → Prop} {E : En} {S : St} {H : Heap} {locs : List Loc} {ls : Array Slot} (hs : ∀ (S : St) (a0 : Int32) (a1 : Int32), Inv S → ∃ (r : Int32), X10_lost S a0 a1 = some r ∧ X11_lost S a0 a1 = some r ∧ Inv S) (hL : L ≤ 3072) (hk : 6 * k + 6 ≤ L) (hX : va_X b L xs s s.heap) (hbl : b < s.heap.size) (hbA : ¬ Ab E b) (C : Cx E p s m #[Value.ref b] c code 4 RL lw_tbl) (hI : Inv S) (hW : Ww E S s H locs) (hl : lv_has ls 4 [(0, .ref b), (1, .ref (E.ad 0)), (2, .ref (E.ad 60)), (3, .int (nI (6 * k)))])
    (kN : LwN p l e s m below meth c b k Inv E) : W p l e room_1 s m #[Value.ref b] below meth c H locs (63 + 9 * k) (3633 + 254 * k) (lw_Z below #[Value.ref b] s) (F0 m 959 ls []) := by
  obtain ⟨⟨hx, hb, hml, hown, hts⟩, hK, hT⟩ := id C
  obtain ⟨r, h1, h2, hI⟩ := hs S (xs ((nI (6 * k) + 1)).toNatClampNeg) (xs ((nI (6 * k) + 2)).toNatClampNeg) hI
  refine lv_aload_n hx hb dL_law_959 rfl (lv_at hl 1 rfl) ?_
  refine lv_aload_n hx hb dL_law_960 rfl (lv_at hl 0 rfl) ?_
  refine lv_iload_n hx hb dL_law_961 rfl (lv_at hl 3 rfl) ?_
  refine lv_iconst (v := 1) hx hb dL_law_962 (by decide) ?_
  refine lv_iadd hx hb dL_law_963 ?_
  refine va_sld hx hb hX hbl hbA hW.2.2 (sc_in (j := 1) (by decide) hk hL) dL_law_964 ?_
  refine lv_aload_n hx hb dL_law_965 rfl (lv_at hl 0 rfl) ?_
  refine lv_iload_n hx hb dL_law_966 rfl (lv_at hl 3 rfl) ?_
  refine lv_iconst (v := 2) hx hb dL_law_967 (by decide) ?_
  refine lv_iadd hx hb dL_law_968 ?_
  refine va_sld hx hb hX hbl hbA hW.2.2 (sc_in (j := 2) (by decide) hk hL) dL_law_969 ?_
  refine g_callVi (ci := 10) (As := [.int (xs ((nI (6 * k) + 1)).toNatClampNeg), .int (xs ((nI (6 * k) + 2)).toNatClampNeg)]) (rest := []) C UU_in hW hl.1 (c_X10_lost l E S (xs ((nI (6 * k) + 1)).toNatClampNeg) (xs ((nI (6 * k) + 2)).toNatClampNeg) _ h1) rfl rfl rfl (in_sid _ rfl) k_RL_115 rfl ⟨rfl, rfl⟩ ⟨Nat.le_of_ble_eq_true rfl, Nat.le_of_ble_eq_true rfl⟩ (cs_ok hk hL) _ rfl (Nat.le_of_ble_eq_true rfl) dL_law_970 (fun H locs hW => ?_)
  refine lv_aload_n hx hb dL_law_973 rfl (lv_at hl 2 rfl) ?_
  refine lv_aload_n hx hb dL_law_974 rfl (lv_at hl 0 rfl) ?_
  refine lv_iload_n hx hb dL_law_975 rfl (lv_at hl 3 rfl) ?_
  refine lv_iconst (v := 1) hx hb dL_law_976 (by decide) ?_
  refine lv_iadd hx hb dL_law_977 ?_
  refine va_sld hx hb hX hbl hbA hW.2.2 (sc_in (j := 1) (by decide) hk hL) dL_law_978 ?_
  refine lv_aload_n hx hb dL_law_979 rfl (lv_at hl 0 rfl) ?_
  refine lv_iload_n hx hb dL_law_980 rfl (lv_at hl 3 rfl) ?_
  refine lv_iconst (v := 2) hx hb dL_law_981 (by decide) ?_
  refine lv_iadd hx hb dL_law_982 ?_
  refine va_sld hx hb hX hbl hbA hW.2.2 (sc_in (j := 2) (by decide) hk hL) dL_law_983 ?_
  refine g_callVi (ci := 11) (As := [.int (xs ((nI (6 * k) + 1)).toNatClampNeg), .int (xs ((nI (6 * k) + 2)).toNatClampNeg)]) (rest := [.int r]) C UU_in hW hl.1 (c_X11_lost l E S (xs ((nI (6 * k) + 1)).toNatClampNeg) (xs ((nI (6 * k) + 2)).toNatClampNeg) _ h2) rfl rfl rfl (in_sid _ rfl) k_RL_118 rfl ⟨rfl, rfl⟩ ⟨Nat.le_of_ble_eq_true rfl, Nat.le_of_ble_eq_true rfl⟩ (cs_ok hk hL) _ rfl (Nat.le_of_ble_eq_true rfl) dL_law_984 (fun H locs hW => ?_)
  refine lv_icmp_eq (tgt := 1282) hx hb dL_law_987 (by decide) (fun _ => ?_) (fun c => absurd rfl c)
  exact kN E.ad _ H locs ls _ _ (by omega) (by omega) rfl rfl hI hW hl
set_option maxHeartbeats 4000000 in
set_option maxRecDepth 100000 in
theorem law_group {p : Program} {e : Env} {s : State} {m : MethodId} {below : List Frame} {meth : Method} {c : Code} {l : Launch} {b L k : Nat} {xs : Nat → Int32} {Inv : St → Prop} {E : En} {S : St} {H : Heap} {locs : List Loc} {ls : Array Slot} (hs : ∀ (S : St) , Inv S → ∃ (r : Int32), X10_group S  = some r ∧ X11_group S  = some r ∧ Inv S) (hL : L ≤ 3072) (hk : 6 * k + 6 ≤ L) (hX : va_X b L xs s s.heap) (hbl : b < s.heap.size) (hbA : ¬ Ab E b) (C : Cx E p s m #[Value.ref b] c code 4 RL lw_tbl) (hI : Inv S) (hW : Ww E S s H locs) (hl : lv_has ls 4 [(0, .ref b), (1, .ref (E.ad 0)), (2, .ref (E.ad 60)), (3, .int (nI (6 * k)))])
    (kN : LwN p l e s m below meth c b k Inv E) : W p l e room_1 s m #[Value.ref b] below meth c H locs (63 + 9 * k) (3633 + 254 * k) (lw_Z below #[Value.ref b] s) (F0 m 992 ls []) := by
  obtain ⟨⟨hx, hb, hml, hown, hts⟩, hK, hT⟩ := id C
  obtain ⟨r, h1, h2, hI⟩ := hs S  hI
  refine lv_aload_n hx hb dL_law_992 rfl (lv_at hl 1 rfl) ?_
  refine g_callVi (ci := 10) (As := []) (rest := []) C UU_in hW hl.1 (c_X10_group l E S  _ h1) rfl rfl rfl (in_sid _ rfl) k_RL_119 rfl ⟨rfl, rfl⟩ ⟨Nat.le_of_ble_eq_true rfl, Nat.le_of_ble_eq_true rfl⟩ (cs_ok hk hL) _ rfl (Nat.le_of_ble_eq_true rfl) dL_law_993 (fun H locs hW => ?_)
  refine lv_aload_n hx hb dL_law_996 rfl (lv_at hl 2 rfl) ?_
  refine g_callVi (ci := 11) (As := []) (rest := [.int r]) C UU_in hW hl.1 (c_X11_group l E S  _ h2) rfl rfl rfl (in_sid _ rfl) k_RL_122 rfl ⟨rfl, rfl⟩ ⟨Nat.le_of_ble_eq_true rfl, Nat.le_of_ble_eq_true rfl⟩ (cs_ok hk hL) _ rfl (Nat.le_of_ble_eq_true rfl) dL_law_997 (fun H locs hW => ?_)
  refine lv_icmp_eq (tgt := 1282) hx hb dL_law_1000 (by decide) (fun _ => ?_) (fun c => absurd rfl c)
  exact kN E.ad _ H locs ls _ _ (by omega) (by omega) rfl rfl hI hW hl
set_option maxHeartbeats 4000000 in
set_option maxRecDepth 100000 in
theorem law_clear {p : Program} {e : Env} {s : State} {m : MethodId} {below : List Frame} {meth : Method} {c : Code} {l : Launch} {b L k : Nat} {xs : Nat → Int32} {Inv : St → Prop} {E : En} {S : St} {H : Heap} {locs : List Loc} {ls : Array Slot} (hs : ∀ (S : St) , Inv S → ∃ (r : Int32) (S1 : St) (S2 : St), X10_clear S  = some (r, S1) ∧ X11_clear S1  = some (r, S2) ∧ Inv S2) (hL : L ≤ 3072) (hk : 6 * k + 6 ≤ L) (hX : va_X b L xs s s.heap) (hbl : b < s.heap.size) (hbA : ¬ Ab E b) (C : Cx E p s m #[Value.ref b] c code 4 RL lw_tbl) (hI : Inv S) (hW : Ww E S s H locs) (hl : lv_has ls 4 [(0, .ref b), (1, .ref (E.ad 0)), (2, .ref (E.ad 60)), (3, .int (nI (6 * k)))])
    (kN : LwN p l e s m below meth c b k Inv E) : W p l e room_1 s m #[Value.ref b] below meth c H locs (63 + 9 * k) (3633 + 254 * k) (lw_Z below #[Value.ref b] s) (F0 m 1005 ls []) := by
  obtain ⟨⟨hx, hb, hml, hown, hts⟩, hK, hT⟩ := id C
  obtain ⟨r, S1, S2, h1, h2, hI⟩ := hs S  hI
  refine lv_aload_n hx hb dL_law_1005 rfl (lv_at hl 1 rfl) ?_
  refine g_callVi (ci := 10) (As := []) (rest := []) C UU_in hW hl.1 (c_X10_clear l E S  _ _ h1) rfl rfl rfl (in_sid _ rfl) k_RL_123 rfl ⟨rfl, rfl⟩ ⟨Nat.le_of_ble_eq_true rfl, Nat.le_of_ble_eq_true rfl⟩ (cs_ok hk hL) _ rfl (Nat.le_of_ble_eq_true rfl) dL_law_1006 (fun H locs hW => ?_)
  refine lv_aload_n hx hb dL_law_1009 rfl (lv_at hl 2 rfl) ?_
  refine g_callVi (ci := 11) (As := []) (rest := [.int r]) C UU_in hW hl.1 (c_X11_clear l E S1  _ _ h2) rfl rfl rfl (in_sid _ rfl) k_RL_126 rfl ⟨rfl, rfl⟩ ⟨Nat.le_of_ble_eq_true rfl, Nat.le_of_ble_eq_true rfl⟩ (cs_ok hk hL) _ rfl (Nat.le_of_ble_eq_true rfl) dL_law_1010 (fun H locs hW => ?_)
  refine lv_icmp_eq (tgt := 1282) hx hb dL_law_1013 (by decide) (fun _ => ?_) (fun c => absurd rfl c)
  exact kN E.ad _ H locs ls _ _ (by omega) (by omega) rfl rfl hI hW hl
set_option maxHeartbeats 4000000 in
set_option maxRecDepth 100000 in
theorem law_most {p : Program} {e : Env} {s : State} {m : MethodId} {below : List Frame} {meth : Method} {c : Code} {l : Launch} {b L k : Nat} {xs : Nat → Int32} {Inv : St → Prop} {E : En} {S : St} {H : Heap} {locs : List Loc} {ls : Array Slot} (hs : ∀ (S : St) (a0 : Int32), Inv S → ∃ (r : Int32) (S1 : St) (S2 : St), X10_most S a0 = some (r, S1) ∧ X11_most S1 a0 = some (r, S2) ∧ Inv S2) (hL : L ≤ 3072) (hk : 6 * k + 6 ≤ L) (hX : va_X b L xs s s.heap) (hbl : b < s.heap.size) (hbA : ¬ Ab E b) (C : Cx E p s m #[Value.ref b] c code 4 RL lw_tbl) (hI : Inv S) (hW : Ww E S s H locs) (hl : lv_has ls 4 [(0, .ref b), (1, .ref (E.ad 0)), (2, .ref (E.ad 60)), (3, .int (nI (6 * k)))])
    (kN : LwN p l e s m below meth c b k Inv E) : W p l e room_1 s m #[Value.ref b] below meth c H locs (63 + 9 * k) (3633 + 254 * k) (lw_Z below #[Value.ref b] s) (F0 m 1018 ls []) := by
  obtain ⟨⟨hx, hb, hml, hown, hts⟩, hK, hT⟩ := id C
  obtain ⟨r, S1, S2, h1, h2, hI⟩ := hs S (xs ((nI (6 * k) + 1)).toNatClampNeg) hI
  refine lv_aload_n hx hb dL_law_1018 rfl (lv_at hl 1 rfl) ?_
  refine lv_aload_n hx hb dL_law_1019 rfl (lv_at hl 0 rfl) ?_
  refine lv_iload_n hx hb dL_law_1020 rfl (lv_at hl 3 rfl) ?_
  refine lv_iconst (v := 1) hx hb dL_law_1021 (by decide) ?_
  refine lv_iadd hx hb dL_law_1022 ?_
  refine va_sld hx hb hX hbl hbA hW.2.2 (sc_in (j := 1) (by decide) hk hL) dL_law_1023 ?_
  refine g_callVi (ci := 10) (As := [.int (xs ((nI (6 * k) + 1)).toNatClampNeg)]) (rest := []) C UU_in hW hl.1 (c_X10_most l E S (xs ((nI (6 * k) + 1)).toNatClampNeg) _ _ h1) rfl rfl rfl (in_sid _ rfl) k_RL_127 rfl ⟨rfl, rfl⟩ ⟨Nat.le_of_ble_eq_true rfl, Nat.le_of_ble_eq_true rfl⟩ (cs_ok hk hL) _ rfl (Nat.le_of_ble_eq_true rfl) dL_law_1024 (fun H locs hW => ?_)
  refine lv_aload_n hx hb dL_law_1027 rfl (lv_at hl 2 rfl) ?_
  refine lv_aload_n hx hb dL_law_1028 rfl (lv_at hl 0 rfl) ?_
  refine lv_iload_n hx hb dL_law_1029 rfl (lv_at hl 3 rfl) ?_
  refine lv_iconst (v := 1) hx hb dL_law_1030 (by decide) ?_
  refine lv_iadd hx hb dL_law_1031 ?_
  refine va_sld hx hb hX hbl hbA hW.2.2 (sc_in (j := 1) (by decide) hk hL) dL_law_1032 ?_
  refine g_callVi (ci := 11) (As := [.int (xs ((nI (6 * k) + 1)).toNatClampNeg)]) (rest := [.int r]) C UU_in hW hl.1 (c_X11_most l E S1 (xs ((nI (6 * k) + 1)).toNatClampNeg) _ _ h2) rfl rfl rfl (in_sid _ rfl) k_RL_130 rfl ⟨rfl, rfl⟩ ⟨Nat.le_of_ble_eq_true rfl, Nat.le_of_ble_eq_true rfl⟩ (cs_ok hk hL) _ rfl (Nat.le_of_ble_eq_true rfl) dL_law_1033 (fun H locs hW => ?_)
  refine lv_icmp_eq (tgt := 1282) hx hb dL_law_1036 (by decide) (fun _ => ?_) (fun c => absurd rfl c)
  exact kN E.ad _ H locs ls _ _ (by omega) (by omega) rfl rfl hI hW hl
set_option maxHeartbeats 4000000 in
set_option maxRecDepth 100000 in
theorem law_net {p : Program} {e : Env} {s : State} {m : MethodId} {below : List Frame} {meth : Method} {c : Code} {l : Launch} {b L k : Nat} {xs : Nat → Int32} {Inv : St → Prop} {E : En} {S : St} {H : Heap} {locs : List Loc} {ls : Array Slot} (hs : ∀ (S : St) , Inv S → ∃ (r : Int32) (S1 : St) (S2 : St), X10_net S  = some (r, S1) ∧ X11_net S1  = some (r, S2) ∧ Inv S2) (hL : L ≤ 3072) (hk : 6 * k + 6 ≤ L) (hX : va_X b L xs s s.heap) (hbl : b < s.heap.size) (hbA : ¬ Ab E b) (C : Cx E p s m #[Value.ref b] c code 4 RL lw_tbl) (hI : Inv S) (hW : Ww E S s H locs) (hl : lv_has ls 4 [(0, .ref b), (1, .ref (E.ad 0)), (2, .ref (E.ad 60)), (3, .int (nI (6 * k)))])
    (kN : LwN p l e s m below meth c b k Inv E) : W p l e room_1 s m #[Value.ref b] below meth c H locs (63 + 9 * k) (3633 + 254 * k) (lw_Z below #[Value.ref b] s) (F0 m 1041 ls []) := by
  obtain ⟨⟨hx, hb, hml, hown, hts⟩, hK, hT⟩ := id C
  obtain ⟨r, S1, S2, h1, h2, hI⟩ := hs S  hI
  refine lv_aload_n hx hb dL_law_1041 rfl (lv_at hl 1 rfl) ?_
  refine g_callVi (ci := 10) (As := []) (rest := []) C UU_in hW hl.1 (c_X10_net l E S  _ _ h1) rfl rfl rfl (in_sid _ rfl) k_RL_131 rfl ⟨rfl, rfl⟩ ⟨Nat.le_of_ble_eq_true rfl, Nat.le_of_ble_eq_true rfl⟩ (cs_ok hk hL) _ rfl (Nat.le_of_ble_eq_true rfl) dL_law_1042 (fun H locs hW => ?_)
  refine lv_aload_n hx hb dL_law_1045 rfl (lv_at hl 2 rfl) ?_
  refine g_callVi (ci := 11) (As := []) (rest := [.int r]) C UU_in hW hl.1 (c_X11_net l E S1  _ _ h2) rfl rfl rfl (in_sid _ rfl) k_RL_134 rfl ⟨rfl, rfl⟩ ⟨Nat.le_of_ble_eq_true rfl, Nat.le_of_ble_eq_true rfl⟩ (cs_ok hk hL) _ rfl (Nat.le_of_ble_eq_true rfl) dL_law_1046 (fun H locs hW => ?_)
  refine lv_icmp_eq (tgt := 1282) hx hb dL_law_1049 (by decide) (fun _ => ?_) (fun c => absurd rfl c)
  exact kN E.ad _ H locs ls _ _ (by omega) (by omega) rfl rfl hI hW hl
set_option maxHeartbeats 4000000 in
set_option maxRecDepth 100000 in
theorem law_image {p : Program} {e : Env} {s : State} {m : MethodId} {below : List Frame} {meth : Method} {c : Code} {l : Launch} {b L k : Nat} {xs : Nat → Int32} {Inv : St → Prop} {E : En} {S : St} {H : Heap} {locs : List Loc} {ls : Array Slot} (hs : ∀ (S : St) (a0 : Int32), Inv S → ∃ (r : Int32) (S1 : St) (S2 : St), X10_image S a0 = some (r, S1) ∧ X11_image S1 a0 = some (r, S2) ∧ Inv S2) (hL : L ≤ 3072) (hk : 6 * k + 6 ≤ L) (hX : va_X b L xs s s.heap) (hbl : b < s.heap.size) (hbA : ¬ Ab E b) (C : Cx E p s m #[Value.ref b] c code 4 RL lw_tbl) (hI : Inv S) (hW : Ww E S s H locs) (hl : lv_has ls 4 [(0, .ref b), (1, .ref (E.ad 0)), (2, .ref (E.ad 60)), (3, .int (nI (6 * k)))])
    (kN : LwN p l e s m below meth c b k Inv E) : W p l e room_1 s m #[Value.ref b] below meth c H locs (63 + 9 * k) (3633 + 254 * k) (lw_Z below #[Value.ref b] s) (F0 m 1054 ls []) := by
  obtain ⟨⟨hx, hb, hml, hown, hts⟩, hK, hT⟩ := id C
  obtain ⟨r, S1, S2, h1, h2, hI⟩ := hs S (xs ((nI (6 * k) + 1)).toNatClampNeg) hI
  refine lv_aload_n hx hb dL_law_1054 rfl (lv_at hl 1 rfl) ?_
  refine lv_aload_n hx hb dL_law_1055 rfl (lv_at hl 0 rfl) ?_
  refine lv_iload_n hx hb dL_law_1056 rfl (lv_at hl 3 rfl) ?_
  refine lv_iconst (v := 1) hx hb dL_law_1057 (by decide) ?_
  refine lv_iadd hx hb dL_law_1058 ?_
  refine va_sld hx hb hX hbl hbA hW.2.2 (sc_in (j := 1) (by decide) hk hL) dL_law_1059 ?_
  refine va_calli (va_runV (As := [.int (xs ((nI (6 * k) + 1)).toNatClampNeg)]) (rest := []) (C := RX10) C.1 (c_X10_image l E S (xs ((nI (6 * k) + 1)).toNatClampNeg) _ _ h1) (cwV 1 C.1.2.2.2.2 (gUV UU_in k_RL_135.1.1 k_RL_135.1.2.1 k_RL_135.1.2.2.1 k_RL_135.1.2.2.2.1 k_RL_135.1.2.2.2.2) rfl rfl rfl k_RL_135.2 ⟨Nat.le_of_ble_eq_true rfl, Nat.le_of_ble_eq_true rfl⟩) (g_preV (ci := 10) C hW rfl rfl rfl (in_sid _ rfl)) rfl rfl hl.1 rfl (lv_room (Nat.le_of_ble_eq_true rfl)) dL_law_1060 (cs_ok2 hk hL)) hW.2.2 (fun q _ h => h) (fun q h => h) (fun r1 u t H locs ht hvm hw hB hz1 hk1 hS => ?_)
  obtain ⟨T, ad1⟩ := u
  obtain ⟨e1, e2, had⟩ := hw
  dsimp only at e2 had hB
  have e1 := e1.symm
  subst e1
  subst e2
  have hW2 : Ww (Ea E ad1) T s H locs := g_afterP (E := Ea E ad1) ht hB hS
  have hW := hW2
  have C2 : Cx (Ea E ad1) p s m #[Value.ref b] c code 4 RL lw_tbl := C
  rw [← had 0 (in_sid S rfl), ← had 60 (in_sid S rfl)] at hl
  refine lv_aload_n hx hb dL_law_1063 rfl (lv_at hl 2 rfl) ?_
  refine lv_aload_n hx hb dL_law_1064 rfl (lv_at hl 0 rfl) ?_
  refine lv_iload_n hx hb dL_law_1065 rfl (lv_at hl 3 rfl) ?_
  refine lv_iconst (v := 1) hx hb dL_law_1066 (by decide) ?_
  refine lv_iadd hx hb dL_law_1067 ?_
  refine va_sld hx hb hX hbl hbA hW.2.2 (sc_in (j := 1) (by decide) hk hL) dL_law_1068 ?_
  refine g_callVi (E := Ea E ad1) (ci := 11) (As := [.int (xs ((nI (6 * k) + 1)).toNatClampNeg)]) (rest := [.int r]) C2 UU_in hW2 hl.1 (c_X11_image l (Ea E ad1) _ (xs ((nI (6 * k) + 1)).toNatClampNeg) _ _ h2) rfl rfl rfl (in_sid _ rfl) k_RL_138 rfl ⟨rfl, rfl⟩ ⟨Nat.le_of_ble_eq_true rfl, Nat.le_of_ble_eq_true rfl⟩ (cs_ok3 hk hL) _ rfl (Nat.le_of_ble_eq_true rfl) dL_law_1069 (fun H locs hW => ?_)
  refine lv_icmp_eq (tgt := 1282) hx hb dL_law_1072 (by decide) (fun _ => ?_) (fun c => absurd rfl c)
  rw [had 0 (in_sid S rfl), had 60 (in_sid S rfl)] at hl
  exact kN ad1 _ H locs ls _ _ (by omega) (by omega) (had 0 (in_sid S rfl)) (had 60 (in_sid S rfl)) hI hW hl
set_option maxHeartbeats 4000000 in
set_option maxRecDepth 100000 in
theorem law_restore {p : Program} {e : Env} {s : State} {m : MethodId} {below : List Frame} {meth : Method} {c : Code} {l : Launch} {b L k : Nat} {xs : Nat → Int32} {Inv : St → Prop} {E : En} {S : St} {H : Heap} {locs : List Loc} {ls : Array Slot} (hs : ∀ (S : St) (a0 : Int32), Inv S → ∃ (r : Int32) (S1 : St) (S2 : St), X10_restore S a0 = some (r, S1) ∧ X11_restore S1 a0 = some (r, S2) ∧ Inv S2) (hL : L ≤ 3072) (hk : 6 * k + 6 ≤ L) (hX : va_X b L xs s s.heap) (hbl : b < s.heap.size) (hbA : ¬ Ab E b) (C : Cx E p s m #[Value.ref b] c code 4 RL lw_tbl) (hI : Inv S) (hW : Ww E S s H locs) (hl : lv_has ls 4 [(0, .ref b), (1, .ref (E.ad 0)), (2, .ref (E.ad 60)), (3, .int (nI (6 * k)))])
    (kN : LwN p l e s m below meth c b k Inv E) : W p l e room_1 s m #[Value.ref b] below meth c H locs (63 + 9 * k) (3633 + 254 * k) (lw_Z below #[Value.ref b] s) (F0 m 1077 ls []) := by
  obtain ⟨⟨hx, hb, hml, hown, hts⟩, hK, hT⟩ := id C
  obtain ⟨r, S1, S2, h1, h2, hI⟩ := hs S (xs ((nI (6 * k) + 1)).toNatClampNeg) hI
  refine lv_aload_n hx hb dL_law_1077 rfl (lv_at hl 1 rfl) ?_
  refine lv_aload_n hx hb dL_law_1078 rfl (lv_at hl 0 rfl) ?_
  refine lv_iload_n hx hb dL_law_1079 rfl (lv_at hl 3 rfl) ?_
  refine lv_iconst (v := 1) hx hb dL_law_1080 (by decide) ?_
  refine lv_iadd hx hb dL_law_1081 ?_
  refine va_sld hx hb hX hbl hbA hW.2.2 (sc_in (j := 1) (by decide) hk hL) dL_law_1082 ?_
  refine g_callVi (ci := 10) (As := [.int (xs ((nI (6 * k) + 1)).toNatClampNeg)]) (rest := []) C UU_in hW hl.1 (c_X10_restore l E S (xs ((nI (6 * k) + 1)).toNatClampNeg) _ _ h1) rfl rfl rfl (in_sid _ rfl) k_RL_139 rfl ⟨rfl, rfl⟩ ⟨Nat.le_of_ble_eq_true rfl, Nat.le_of_ble_eq_true rfl⟩ (cs_ok hk hL) _ rfl (Nat.le_of_ble_eq_true rfl) dL_law_1083 (fun H locs hW => ?_)
  refine lv_aload_n hx hb dL_law_1086 rfl (lv_at hl 2 rfl) ?_
  refine lv_aload_n hx hb dL_law_1087 rfl (lv_at hl 0 rfl) ?_
  refine lv_iload_n hx hb dL_law_1088 rfl (lv_at hl 3 rfl) ?_
  refine lv_iconst (v := 1) hx hb dL_law_1089 (by decide) ?_
  refine lv_iadd hx hb dL_law_1090 ?_
  refine va_sld hx hb hX hbl hbA hW.2.2 (sc_in (j := 1) (by decide) hk hL) dL_law_1091 ?_
  refine g_callVi (ci := 11) (As := [.int (xs ((nI (6 * k) + 1)).toNatClampNeg)]) (rest := [.int r]) C UU_in hW hl.1 (c_X11_restore l E S1 (xs ((nI (6 * k) + 1)).toNatClampNeg) _ _ h2) rfl rfl rfl (in_sid _ rfl) k_RL_142 rfl ⟨rfl, rfl⟩ ⟨Nat.le_of_ble_eq_true rfl, Nat.le_of_ble_eq_true rfl⟩ (cs_ok hk hL) _ rfl (Nat.le_of_ble_eq_true rfl) dL_law_1092 (fun H locs hW => ?_)
  refine lv_icmp_eq (tgt := 1282) hx hb dL_law_1095 (by decide) (fun _ => ?_) (fun c => absurd rfl c)
  exact kN E.ad _ H locs ls _ _ (by omega) (by omega) rfl rfl hI hW hl
set_option maxHeartbeats 4000000 in
set_option maxRecDepth 100000 in
theorem law_sheet {p : Program} {e : Env} {s : State} {m : MethodId} {below : List Frame} {meth : Method} {c : Code} {l : Launch} {b L k : Nat} {xs : Nat → Int32} {Inv : St → Prop} {E : En} {S : St} {H : Heap} {locs : List Loc} {ls : Array Slot} (hs : ∀ (S : St) (a0 : Int32) (a1 : Int32) (a2 : Int32), Inv S → ∃ (r : Int32) (S1 : St) (S2 : St), X10_sheet S a0 a1 a2 = some (r, S1) ∧ X11_sheet S1 a0 a1 a2 = some (r, S2) ∧ Inv S2) (hL : L ≤ 3072) (hk : 6 * k + 6 ≤ L) (hX : va_X b L xs s s.heap) (hbl : b < s.heap.size) (hbA : ¬ Ab E b) (C : Cx E p s m #[Value.ref b] c code 4 RL lw_tbl) (hI : Inv S) (hW : Ww E S s H locs) (hl : lv_has ls 4 [(0, .ref b), (1, .ref (E.ad 0)), (2, .ref (E.ad 60)), (3, .int (nI (6 * k)))])
    (kN : LwN p l e s m below meth c b k Inv E) : W p l e room_1 s m #[Value.ref b] below meth c H locs (63 + 9 * k) (3633 + 254 * k) (lw_Z below #[Value.ref b] s) (F0 m 1100 ls []) := by
  obtain ⟨⟨hx, hb, hml, hown, hts⟩, hK, hT⟩ := id C
  obtain ⟨r, S1, S2, h1, h2, hI⟩ := hs S (xs ((nI (6 * k) + 1)).toNatClampNeg) (xs ((nI (6 * k) + 2)).toNatClampNeg) (xs ((nI (6 * k) + 3)).toNatClampNeg) hI
  refine lv_aload_n hx hb dL_law_1100 rfl (lv_at hl 1 rfl) ?_
  refine lv_aload_n hx hb dL_law_1101 rfl (lv_at hl 0 rfl) ?_
  refine lv_iload_n hx hb dL_law_1102 rfl (lv_at hl 3 rfl) ?_
  refine lv_iconst (v := 1) hx hb dL_law_1103 (by decide) ?_
  refine lv_iadd hx hb dL_law_1104 ?_
  refine va_sld hx hb hX hbl hbA hW.2.2 (sc_in (j := 1) (by decide) hk hL) dL_law_1105 ?_
  refine lv_aload_n hx hb dL_law_1106 rfl (lv_at hl 0 rfl) ?_
  refine lv_iload_n hx hb dL_law_1107 rfl (lv_at hl 3 rfl) ?_
  refine lv_iconst (v := 2) hx hb dL_law_1108 (by decide) ?_
  refine lv_iadd hx hb dL_law_1109 ?_
  refine va_sld hx hb hX hbl hbA hW.2.2 (sc_in (j := 2) (by decide) hk hL) dL_law_1110 ?_
  refine lv_aload_n hx hb dL_law_1111 rfl (lv_at hl 0 rfl) ?_
  refine lv_iload_n hx hb dL_law_1112 rfl (lv_at hl 3 rfl) ?_
  refine lv_iconst (v := 3) hx hb dL_law_1113 (by decide) ?_
  refine lv_iadd hx hb dL_law_1114 ?_
  refine va_sld hx hb hX hbl hbA hW.2.2 (sc_in (j := 3) (by decide) hk hL) dL_law_1115 ?_
  refine g_callVi (ci := 10) (As := [.int (xs ((nI (6 * k) + 1)).toNatClampNeg), .int (xs ((nI (6 * k) + 2)).toNatClampNeg), .int (xs ((nI (6 * k) + 3)).toNatClampNeg)]) (rest := []) C UU_in hW hl.1 (c_X10_sheet l E S (xs ((nI (6 * k) + 1)).toNatClampNeg) (xs ((nI (6 * k) + 2)).toNatClampNeg) (xs ((nI (6 * k) + 3)).toNatClampNeg) _ _ h1) rfl rfl rfl (in_sid _ rfl) k_RL_143 rfl ⟨rfl, rfl⟩ ⟨Nat.le_of_ble_eq_true rfl, Nat.le_of_ble_eq_true rfl⟩ (cs_ok hk hL) _ rfl (Nat.le_of_ble_eq_true rfl) dL_law_1116 (fun H locs hW => ?_)
  refine lv_aload_n hx hb dL_law_1119 rfl (lv_at hl 2 rfl) ?_
  refine lv_aload_n hx hb dL_law_1120 rfl (lv_at hl 0 rfl) ?_
  refine lv_iload_n hx hb dL_law_1121 rfl (lv_at hl 3 rfl) ?_
  refine lv_iconst (v := 1) hx hb dL_law_1122 (by decide) ?_
  refine lv_iadd hx hb dL_law_1123 ?_
  refine va_sld hx hb hX hbl hbA hW.2.2 (sc_in (j := 1) (by decide) hk hL) dL_law_1124 ?_
  refine lv_aload_n hx hb dL_law_1125 rfl (lv_at hl 0 rfl) ?_
  refine lv_iload_n hx hb dL_law_1126 rfl (lv_at hl 3 rfl) ?_
  refine lv_iconst (v := 2) hx hb dL_law_1127 (by decide) ?_
  refine lv_iadd hx hb dL_law_1128 ?_
  refine va_sld hx hb hX hbl hbA hW.2.2 (sc_in (j := 2) (by decide) hk hL) dL_law_1129 ?_
  refine lv_aload_n hx hb dL_law_1130 rfl (lv_at hl 0 rfl) ?_
  refine lv_iload_n hx hb dL_law_1131 rfl (lv_at hl 3 rfl) ?_
  refine lv_iconst (v := 3) hx hb dL_law_1132 (by decide) ?_
  refine lv_iadd hx hb dL_law_1133 ?_
  refine va_sld hx hb hX hbl hbA hW.2.2 (sc_in (j := 3) (by decide) hk hL) dL_law_1134 ?_
  refine g_callVi (ci := 11) (As := [.int (xs ((nI (6 * k) + 1)).toNatClampNeg), .int (xs ((nI (6 * k) + 2)).toNatClampNeg), .int (xs ((nI (6 * k) + 3)).toNatClampNeg)]) (rest := [.int r]) C UU_in hW hl.1 (c_X11_sheet l E S1 (xs ((nI (6 * k) + 1)).toNatClampNeg) (xs ((nI (6 * k) + 2)).toNatClampNeg) (xs ((nI (6 * k) + 3)).toNatClampNeg) _ _ h2) rfl rfl rfl (in_sid _ rfl) k_RL_146 rfl ⟨rfl, rfl⟩ ⟨Nat.le_of_ble_eq_true rfl, Nat.le_of_ble_eq_true rfl⟩ (cs_ok hk hL) _ rfl (Nat.le_of_ble_eq_true rfl) dL_law_1135 (fun H locs hW => ?_)
  refine lv_icmp_eq (tgt := 1282) hx hb dL_law_1138 (by decide) (fun _ => ?_) (fun c => absurd rfl c)
  exact kN E.ad _ H locs ls _ _ (by omega) (by omega) rfl rfl hI hW hl
set_option maxHeartbeats 4000000 in
set_option maxRecDepth 100000 in
theorem law_drop {p : Program} {e : Env} {s : State} {m : MethodId} {below : List Frame} {meth : Method} {c : Code} {l : Launch} {b L k : Nat} {xs : Nat → Int32} {Inv : St → Prop} {E : En} {S : St} {H : Heap} {locs : List Loc} {ls : Array Slot} (hs : ∀ (S : St) (a0 : Int32), Inv S → ∃ (r : Int32) (S1 : St) (S2 : St), X10_drop S a0 = some (r, S1) ∧ X11_drop S1 a0 = some (r, S2) ∧ Inv S2) (hL : L ≤ 3072) (hk : 6 * k + 6 ≤ L) (hX : va_X b L xs s s.heap) (hbl : b < s.heap.size) (hbA : ¬ Ab E b) (C : Cx E p s m #[Value.ref b] c code 4 RL lw_tbl) (hI : Inv S) (hW : Ww E S s H locs) (hl : lv_has ls 4 [(0, .ref b), (1, .ref (E.ad 0)), (2, .ref (E.ad 60)), (3, .int (nI (6 * k)))])
    (kN : LwN p l e s m below meth c b k Inv E) : W p l e room_1 s m #[Value.ref b] below meth c H locs (63 + 9 * k) (3633 + 254 * k) (lw_Z below #[Value.ref b] s) (F0 m 1143 ls []) := by
  obtain ⟨⟨hx, hb, hml, hown, hts⟩, hK, hT⟩ := id C
  obtain ⟨r, S1, S2, h1, h2, hI⟩ := hs S (xs ((nI (6 * k) + 1)).toNatClampNeg) hI
  refine lv_aload_n hx hb dL_law_1143 rfl (lv_at hl 1 rfl) ?_
  refine lv_aload_n hx hb dL_law_1144 rfl (lv_at hl 0 rfl) ?_
  refine lv_iload_n hx hb dL_law_1145 rfl (lv_at hl 3 rfl) ?_
  refine lv_iconst (v := 1) hx hb dL_law_1146 (by decide) ?_
  refine lv_iadd hx hb dL_law_1147 ?_
  refine va_sld hx hb hX hbl hbA hW.2.2 (sc_in (j := 1) (by decide) hk hL) dL_law_1148 ?_
  refine g_callVi (ci := 10) (As := [.int (xs ((nI (6 * k) + 1)).toNatClampNeg)]) (rest := []) C UU_in hW hl.1 (c_X10_drop l E S (xs ((nI (6 * k) + 1)).toNatClampNeg) _ _ h1) rfl rfl rfl (in_sid _ rfl) k_RL_147 rfl ⟨rfl, rfl⟩ ⟨Nat.le_of_ble_eq_true rfl, Nat.le_of_ble_eq_true rfl⟩ (cs_ok hk hL) _ rfl (Nat.le_of_ble_eq_true rfl) dL_law_1149 (fun H locs hW => ?_)
  refine lv_aload_n hx hb dL_law_1152 rfl (lv_at hl 2 rfl) ?_
  refine lv_aload_n hx hb dL_law_1153 rfl (lv_at hl 0 rfl) ?_
  refine lv_iload_n hx hb dL_law_1154 rfl (lv_at hl 3 rfl) ?_
  refine lv_iconst (v := 1) hx hb dL_law_1155 (by decide) ?_
  refine lv_iadd hx hb dL_law_1156 ?_
  refine va_sld hx hb hX hbl hbA hW.2.2 (sc_in (j := 1) (by decide) hk hL) dL_law_1157 ?_
  refine g_callVi (ci := 11) (As := [.int (xs ((nI (6 * k) + 1)).toNatClampNeg)]) (rest := [.int r]) C UU_in hW hl.1 (c_X11_drop l E S1 (xs ((nI (6 * k) + 1)).toNatClampNeg) _ _ h2) rfl rfl rfl (in_sid _ rfl) k_RL_150 rfl ⟨rfl, rfl⟩ ⟨Nat.le_of_ble_eq_true rfl, Nat.le_of_ble_eq_true rfl⟩ (cs_ok hk hL) _ rfl (Nat.le_of_ble_eq_true rfl) dL_law_1158 (fun H locs hW => ?_)
  refine lv_icmp_eq (tgt := 1282) hx hb dL_law_1161 (by decide) (fun _ => ?_) (fun c => absurd rfl c)
  exact kN E.ad _ H locs ls _ _ (by omega) (by omega) rfl rfl hI hW hl
set_option maxHeartbeats 4000000 in
set_option maxRecDepth 100000 in
theorem law_item {p : Program} {e : Env} {s : State} {m : MethodId} {below : List Frame} {meth : Method} {c : Code} {l : Launch} {b L k : Nat} {xs : Nat → Int32} {Inv : St → Prop} {E : En} {S : St} {H : Heap} {locs : List Loc} {ls : Array Slot} (hs : ∀ (S : St) (a0 : Int32) (a1 : Int32) (a2 : Int32) (a3 : Int32), Inv S → ∃ (r : Int32) (S1 : St) (S2 : St), X10_item S a0 a1 a2 a3 = some (r, S1) ∧ X11_item S1 a0 a1 a2 a3 = some (r, S2) ∧ Inv S2) (hL : L ≤ 3072) (hk : 6 * k + 6 ≤ L) (hX : va_X b L xs s s.heap) (hbl : b < s.heap.size) (hbA : ¬ Ab E b) (C : Cx E p s m #[Value.ref b] c code 4 RL lw_tbl) (hI : Inv S) (hW : Ww E S s H locs) (hl : lv_has ls 4 [(0, .ref b), (1, .ref (E.ad 0)), (2, .ref (E.ad 60)), (3, .int (nI (6 * k)))])
    (kN : LwN p l e s m below meth c b k Inv E) : W p l e room_1 s m #[Value.ref b] below meth c H locs (63 + 9 * k) (3633 + 254 * k) (lw_Z below #[Value.ref b] s) (F0 m 1166 ls []) := by
  obtain ⟨⟨hx, hb, hml, hown, hts⟩, hK, hT⟩ := id C
  obtain ⟨r, S1, S2, h1, h2, hI⟩ := hs S (xs ((nI (6 * k) + 1)).toNatClampNeg) (xs ((nI (6 * k) + 2)).toNatClampNeg) (xs ((nI (6 * k) + 3)).toNatClampNeg) (xs ((nI (6 * k) + 4)).toNatClampNeg) hI
  refine lv_aload_n hx hb dL_law_1166 rfl (lv_at hl 1 rfl) ?_
  refine lv_aload_n hx hb dL_law_1167 rfl (lv_at hl 0 rfl) ?_
  refine lv_iload_n hx hb dL_law_1168 rfl (lv_at hl 3 rfl) ?_
  refine lv_iconst (v := 1) hx hb dL_law_1169 (by decide) ?_
  refine lv_iadd hx hb dL_law_1170 ?_
  refine va_sld hx hb hX hbl hbA hW.2.2 (sc_in (j := 1) (by decide) hk hL) dL_law_1171 ?_
  refine lv_aload_n hx hb dL_law_1172 rfl (lv_at hl 0 rfl) ?_
  refine lv_iload_n hx hb dL_law_1173 rfl (lv_at hl 3 rfl) ?_
  refine lv_iconst (v := 2) hx hb dL_law_1174 (by decide) ?_
  refine lv_iadd hx hb dL_law_1175 ?_
  refine va_sld hx hb hX hbl hbA hW.2.2 (sc_in (j := 2) (by decide) hk hL) dL_law_1176 ?_
  refine lv_aload_n hx hb dL_law_1177 rfl (lv_at hl 0 rfl) ?_
  refine lv_iload_n hx hb dL_law_1178 rfl (lv_at hl 3 rfl) ?_
  refine lv_iconst (v := 3) hx hb dL_law_1179 (by decide) ?_
  refine lv_iadd hx hb dL_law_1180 ?_
  refine va_sld hx hb hX hbl hbA hW.2.2 (sc_in (j := 3) (by decide) hk hL) dL_law_1181 ?_
  refine lv_aload_n hx hb dL_law_1182 rfl (lv_at hl 0 rfl) ?_
  refine lv_iload_n hx hb dL_law_1183 rfl (lv_at hl 3 rfl) ?_
  refine lv_iconst (v := 4) hx hb dL_law_1184 (by decide) ?_
  refine lv_iadd hx hb dL_law_1185 ?_
  refine va_sld hx hb hX hbl hbA hW.2.2 (sc_in (j := 4) (by decide) hk hL) dL_law_1186 ?_
  refine g_callVi (ci := 10) (As := [.int (xs ((nI (6 * k) + 1)).toNatClampNeg), .int (xs ((nI (6 * k) + 2)).toNatClampNeg), .int (xs ((nI (6 * k) + 3)).toNatClampNeg), .int (xs ((nI (6 * k) + 4)).toNatClampNeg)]) (rest := []) C UU_in hW hl.1 (c_X10_item l E S (xs ((nI (6 * k) + 1)).toNatClampNeg) (xs ((nI (6 * k) + 2)).toNatClampNeg) (xs ((nI (6 * k) + 3)).toNatClampNeg) (xs ((nI (6 * k) + 4)).toNatClampNeg) _ _ h1) rfl rfl rfl (in_sid _ rfl) k_RL_151 rfl ⟨rfl, rfl⟩ ⟨Nat.le_of_ble_eq_true rfl, Nat.le_of_ble_eq_true rfl⟩ (cs_ok hk hL) _ rfl (Nat.le_of_ble_eq_true rfl) dL_law_1187 (fun H locs hW => ?_)
  refine lv_aload_n hx hb dL_law_1190 rfl (lv_at hl 2 rfl) ?_
  refine lv_aload_n hx hb dL_law_1191 rfl (lv_at hl 0 rfl) ?_
  refine lv_iload_n hx hb dL_law_1192 rfl (lv_at hl 3 rfl) ?_
  refine lv_iconst (v := 1) hx hb dL_law_1193 (by decide) ?_
  refine lv_iadd hx hb dL_law_1194 ?_
  refine va_sld hx hb hX hbl hbA hW.2.2 (sc_in (j := 1) (by decide) hk hL) dL_law_1195 ?_
  refine lv_aload_n hx hb dL_law_1196 rfl (lv_at hl 0 rfl) ?_
  refine lv_iload_n hx hb dL_law_1197 rfl (lv_at hl 3 rfl) ?_
  refine lv_iconst (v := 2) hx hb dL_law_1198 (by decide) ?_
  refine lv_iadd hx hb dL_law_1199 ?_
  refine va_sld hx hb hX hbl hbA hW.2.2 (sc_in (j := 2) (by decide) hk hL) dL_law_1200 ?_
  refine lv_aload_n hx hb dL_law_1201 rfl (lv_at hl 0 rfl) ?_
  refine lv_iload_n hx hb dL_law_1202 rfl (lv_at hl 3 rfl) ?_
  refine lv_iconst (v := 3) hx hb dL_law_1203 (by decide) ?_
  refine lv_iadd hx hb dL_law_1204 ?_
  refine va_sld hx hb hX hbl hbA hW.2.2 (sc_in (j := 3) (by decide) hk hL) dL_law_1205 ?_
  refine lv_aload_n hx hb dL_law_1206 rfl (lv_at hl 0 rfl) ?_
  refine lv_iload_n hx hb dL_law_1207 rfl (lv_at hl 3 rfl) ?_
  refine lv_iconst (v := 4) hx hb dL_law_1208 (by decide) ?_
  refine lv_iadd hx hb dL_law_1209 ?_
  refine va_sld hx hb hX hbl hbA hW.2.2 (sc_in (j := 4) (by decide) hk hL) dL_law_1210 ?_
  refine g_callVi (ci := 11) (As := [.int (xs ((nI (6 * k) + 1)).toNatClampNeg), .int (xs ((nI (6 * k) + 2)).toNatClampNeg), .int (xs ((nI (6 * k) + 3)).toNatClampNeg), .int (xs ((nI (6 * k) + 4)).toNatClampNeg)]) (rest := [.int r]) C UU_in hW hl.1 (c_X11_item l E S1 (xs ((nI (6 * k) + 1)).toNatClampNeg) (xs ((nI (6 * k) + 2)).toNatClampNeg) (xs ((nI (6 * k) + 3)).toNatClampNeg) (xs ((nI (6 * k) + 4)).toNatClampNeg) _ _ h2) rfl rfl rfl (in_sid _ rfl) k_RL_154 rfl ⟨rfl, rfl⟩ ⟨Nat.le_of_ble_eq_true rfl, Nat.le_of_ble_eq_true rfl⟩ (cs_ok hk hL) _ rfl (Nat.le_of_ble_eq_true rfl) dL_law_1211 (fun H locs hW => ?_)
  refine lv_icmp_eq (tgt := 1282) hx hb dL_law_1214 (by decide) (fun _ => ?_) (fun c => absurd rfl c)
  exact kN E.ad _ H locs ls _ _ (by omega) (by omega) rfl rfl hI hW hl
set_option maxHeartbeats 4000000 in
set_option maxRecDepth 100000 in
theorem law_copy {p : Program} {e : Env} {s : State} {m : MethodId} {below : List Frame} {meth : Method} {c : Code} {l : Launch} {b L k : Nat} {xs : Nat → Int32} {Inv : St → Prop} {E : En} {S : St} {H : Heap} {locs : List Loc} {ls : Array Slot} (hs : ∀ (S : St) (a0 : Int32) (a1 : Int32) (a2 : Int32) (a3 : Int32) (a4 : Int32), Inv S → ∃ (r : Int32) (S1 : St) (S2 : St), X10_copy S a0 a1 a2 a3 a4 = some (r, S1) ∧ X11_copy S1 a0 a1 a2 a3 a4 = some (r, S2) ∧ Inv S2) (hL : L ≤ 3072) (hk : 6 * k + 6 ≤ L) (hX : va_X b L xs s s.heap) (hbl : b < s.heap.size) (hbA : ¬ Ab E b) (C : Cx E p s m #[Value.ref b] c code 4 RL lw_tbl) (hI : Inv S) (hW : Ww E S s H locs) (hl : lv_has ls 4 [(0, .ref b), (1, .ref (E.ad 0)), (2, .ref (E.ad 60)), (3, .int (nI (6 * k)))])
    (kN : LwN p l e s m below meth c b k Inv E) : W p l e room_1 s m #[Value.ref b] below meth c H locs (63 + 9 * k) (3633 + 254 * k) (lw_Z below #[Value.ref b] s) (F0 m 1219 ls []) := by
  obtain ⟨⟨hx, hb, hml, hown, hts⟩, hK, hT⟩ := id C
  obtain ⟨r, S1, S2, h1, h2, hI⟩ := hs S (xs ((nI (6 * k) + 1)).toNatClampNeg) (xs ((nI (6 * k) + 2)).toNatClampNeg) (xs ((nI (6 * k) + 3)).toNatClampNeg) (xs ((nI (6 * k) + 4)).toNatClampNeg) (xs ((nI (6 * k) + 5)).toNatClampNeg) hI
  refine lv_aload_n hx hb dL_law_1219 rfl (lv_at hl 1 rfl) ?_
  refine lv_aload_n hx hb dL_law_1220 rfl (lv_at hl 0 rfl) ?_
  refine lv_iload_n hx hb dL_law_1221 rfl (lv_at hl 3 rfl) ?_
  refine lv_iconst (v := 1) hx hb dL_law_1222 (by decide) ?_
  refine lv_iadd hx hb dL_law_1223 ?_
  refine va_sld hx hb hX hbl hbA hW.2.2 (sc_in (j := 1) (by decide) hk hL) dL_law_1224 ?_
  refine lv_aload_n hx hb dL_law_1225 rfl (lv_at hl 0 rfl) ?_
  refine lv_iload_n hx hb dL_law_1226 rfl (lv_at hl 3 rfl) ?_
  refine lv_iconst (v := 2) hx hb dL_law_1227 (by decide) ?_
  refine lv_iadd hx hb dL_law_1228 ?_
  refine va_sld hx hb hX hbl hbA hW.2.2 (sc_in (j := 2) (by decide) hk hL) dL_law_1229 ?_
  refine lv_aload_n hx hb dL_law_1230 rfl (lv_at hl 0 rfl) ?_
  refine lv_iload_n hx hb dL_law_1231 rfl (lv_at hl 3 rfl) ?_
  refine lv_iconst (v := 3) hx hb dL_law_1232 (by decide) ?_
  refine lv_iadd hx hb dL_law_1233 ?_
  refine va_sld hx hb hX hbl hbA hW.2.2 (sc_in (j := 3) (by decide) hk hL) dL_law_1234 ?_
  refine lv_aload_n hx hb dL_law_1235 rfl (lv_at hl 0 rfl) ?_
  refine lv_iload_n hx hb dL_law_1236 rfl (lv_at hl 3 rfl) ?_
  refine lv_iconst (v := 4) hx hb dL_law_1237 (by decide) ?_
  refine lv_iadd hx hb dL_law_1238 ?_
  refine va_sld hx hb hX hbl hbA hW.2.2 (sc_in (j := 4) (by decide) hk hL) dL_law_1239 ?_
  refine lv_aload_n hx hb dL_law_1240 rfl (lv_at hl 0 rfl) ?_
  refine lv_iload_n hx hb dL_law_1241 rfl (lv_at hl 3 rfl) ?_
  refine lv_iconst (v := 5) hx hb dL_law_1242 (by decide) ?_
  refine lv_iadd hx hb dL_law_1243 ?_
  refine va_sld hx hb hX hbl hbA hW.2.2 (sc_in (j := 5) (by decide) hk hL) dL_law_1244 ?_
  refine g_callVi (ci := 10) (As := [.int (xs ((nI (6 * k) + 1)).toNatClampNeg), .int (xs ((nI (6 * k) + 2)).toNatClampNeg), .int (xs ((nI (6 * k) + 3)).toNatClampNeg), .int (xs ((nI (6 * k) + 4)).toNatClampNeg), .int (xs ((nI (6 * k) + 5)).toNatClampNeg)]) (rest := []) C UU_in hW hl.1 (c_X10_copy l E S (xs ((nI (6 * k) + 1)).toNatClampNeg) (xs ((nI (6 * k) + 2)).toNatClampNeg) (xs ((nI (6 * k) + 3)).toNatClampNeg) (xs ((nI (6 * k) + 4)).toNatClampNeg) (xs ((nI (6 * k) + 5)).toNatClampNeg) _ _ h1) rfl rfl rfl (in_sid _ rfl) k_RL_155 rfl ⟨rfl, rfl⟩ ⟨Nat.le_of_ble_eq_true rfl, Nat.le_of_ble_eq_true rfl⟩ (cs_ok hk hL) _ rfl (Nat.le_of_ble_eq_true rfl) dL_law_1245 (fun H locs hW => ?_)
  refine lv_aload_n hx hb dL_law_1248 rfl (lv_at hl 2 rfl) ?_
  refine lv_aload_n hx hb dL_law_1249 rfl (lv_at hl 0 rfl) ?_
  refine lv_iload_n hx hb dL_law_1250 rfl (lv_at hl 3 rfl) ?_
  refine lv_iconst (v := 1) hx hb dL_law_1251 (by decide) ?_
  refine lv_iadd hx hb dL_law_1252 ?_
  refine va_sld hx hb hX hbl hbA hW.2.2 (sc_in (j := 1) (by decide) hk hL) dL_law_1253 ?_
  refine lv_aload_n hx hb dL_law_1254 rfl (lv_at hl 0 rfl) ?_
  refine lv_iload_n hx hb dL_law_1255 rfl (lv_at hl 3 rfl) ?_
  refine lv_iconst (v := 2) hx hb dL_law_1256 (by decide) ?_
  refine lv_iadd hx hb dL_law_1257 ?_
  refine va_sld hx hb hX hbl hbA hW.2.2 (sc_in (j := 2) (by decide) hk hL) dL_law_1258 ?_
  refine lv_aload_n hx hb dL_law_1259 rfl (lv_at hl 0 rfl) ?_
  refine lv_iload_n hx hb dL_law_1260 rfl (lv_at hl 3 rfl) ?_
  refine lv_iconst (v := 3) hx hb dL_law_1261 (by decide) ?_
  refine lv_iadd hx hb dL_law_1262 ?_
  refine va_sld hx hb hX hbl hbA hW.2.2 (sc_in (j := 3) (by decide) hk hL) dL_law_1263 ?_
  refine lv_aload_n hx hb dL_law_1264 rfl (lv_at hl 0 rfl) ?_
  refine lv_iload_n hx hb dL_law_1265 rfl (lv_at hl 3 rfl) ?_
  refine lv_iconst (v := 4) hx hb dL_law_1266 (by decide) ?_
  refine lv_iadd hx hb dL_law_1267 ?_
  refine va_sld hx hb hX hbl hbA hW.2.2 (sc_in (j := 4) (by decide) hk hL) dL_law_1268 ?_
  refine lv_aload_n hx hb dL_law_1269 rfl (lv_at hl 0 rfl) ?_
  refine lv_iload_n hx hb dL_law_1270 rfl (lv_at hl 3 rfl) ?_
  refine lv_iconst (v := 5) hx hb dL_law_1271 (by decide) ?_
  refine lv_iadd hx hb dL_law_1272 ?_
  refine va_sld hx hb hX hbl hbA hW.2.2 (sc_in (j := 5) (by decide) hk hL) dL_law_1273 ?_
  refine g_callVi (ci := 11) (As := [.int (xs ((nI (6 * k) + 1)).toNatClampNeg), .int (xs ((nI (6 * k) + 2)).toNatClampNeg), .int (xs ((nI (6 * k) + 3)).toNatClampNeg), .int (xs ((nI (6 * k) + 4)).toNatClampNeg), .int (xs ((nI (6 * k) + 5)).toNatClampNeg)]) (rest := [.int r]) C UU_in hW hl.1 (c_X11_copy l E S1 (xs ((nI (6 * k) + 1)).toNatClampNeg) (xs ((nI (6 * k) + 2)).toNatClampNeg) (xs ((nI (6 * k) + 3)).toNatClampNeg) (xs ((nI (6 * k) + 4)).toNatClampNeg) (xs ((nI (6 * k) + 5)).toNatClampNeg) _ _ h2) rfl rfl rfl (in_sid _ rfl) k_RL_159 rfl ⟨rfl, rfl⟩ ⟨Nat.le_of_ble_eq_true rfl, Nat.le_of_ble_eq_true rfl⟩ (cs_ok hk hL) _ rfl (Nat.le_of_ble_eq_true rfl) dL_law_1274 (fun H locs hW => ?_)
  refine lv_icmp_eq (tgt := 1282) hx hb dL_law_1277 (by decide) (fun _ => ?_) (fun c => absurd rfl c)
  exact kN E.ad _ H locs ls _ _ (by omega) (by omega) rfl rfl hI hW hl
